import java.util.ArrayList;
import java.util.List;

/**
 * All that an object holds, brought to light by further calls. Some of it can only be seen by
 * changing it, so it comes in parts, each for an object of its own in the same state.
 */
final class Drain {
    static final int PARTS = 7;
    /** No part makes more calls than this. */
    static final int MOST_CALLS = 200;
    /** Each sort of item keeps other bits of it. */
    private static final long TELLS_SORT = 0x100010180L;

    private final Calls x;
    private final List<Long> found = new ArrayList<>();

    private Drain(Calls x) {
        this.x = x;
    }

    static List<Long> part(Calls x, int part) {
        Drain drain = new Drain(x);
        switch (part) {
            case 0: drain.asked(); break;
            case 1: drain.deeds(); break;
            case 2: drain.image(); break;
            case 3: drain.text(); break;
            default: drain.tapes(2 * (part - 4)); break;
        }
        if (drain.found.size() > MOST_CALLS) {
            throw new IllegalStateException("part " + part + " makes " + drain.found.size() + " calls");
        }
        return drain.found;
    }

    private void ask(String name, long... a) {
        found.add(x.call(name, a));
    }

    private void asked() {
        for (int i = 0; i <= 10; i++) {
            ask("told", i);
        }
        rows();
        for (int i = 0; i < 5; i++) {
            ask("count", i);
            ask("fits", i, 0);
            ask("fits", i, 1);
        }
        for (int i = 0; i < 3; i++) {
            ask("after", i);
        }
        ask("looked");
        for (int tape = 0; tape < 6; tape++) {
            ask("judge", tape, 0);
        }
    }

    private void rows() {
        for (int i = 0; i < 15; i++) {
            ask("of", i / 3, i % 3);
        }
    }

    private void deeds() {
        for (int i = 0; i < 13; i++) {
            ask("takeBack");
            for (int k = 0; k < 5; k++) {
                ask("of", k, 0);
                ask("of", k, 2);
            }
            ask("told", 2);
            ask("told", 3);
        }
    }

    private void image() {
        ask("undo");
        asked();
    }

    private void text() {
        ask("feed", ';');
        ask("feed", 'k');
        ask("read");
        asked();
    }

    private void tapes(int first) {
        for (int tape = first; tape < first + 2; tape++) {
            for (int i = 0; i < 60; i++) {
                ask("peek", tape, i);
            }
            ask("shift", tape, 0, tape, 0, 0);
            ask("item", tape, 0, TELLS_SORT);
            ask("peek", tape, 0);
        }
    }

    /** The first part in which two ways to make an object differ; -1: none. */
    static int unlikePart(Made one, Made other) {
        for (int part = 0; part < PARTS; part++) {
            if (!part(one.anew(), part).equals(part(other.anew(), part))) {
                return part;
            }
        }
        return -1;
    }

    /** Makes the same object each time. */
    interface Made {
        Calls anew();
    }
}
