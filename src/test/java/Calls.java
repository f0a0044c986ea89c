import java.util.Arrays;
import java.util.Set;

/** One call of the face by its name, so that runs can be written as texts and made by programs. */
interface Calls {
    /** The document promises nothing about an object behind so many calls. */
    int MOST_CALLS = 512;

    /** Names with the number of their arguments behind a slash; the order is that of the document. */
    String[] FACE = {
        "letters/1", "bottom/1", "length/2", "swap/2", "step/0", "back/1", "takeBack/0", "keep/0",
        "feed/1", "read/0", "of/2", "told/1", "point/2", "gone/2", "code/1", "next/2", "meeting/1",
        "see/2", "fits/2", "odds/1", "mean/1", "event/2", "after/1", "book/2", "looked/0",
        "judge/2", "image/0", "undo/0", "count/1", "tape/3", "item/3", "peek/2", "shift/5"};

    Set<String> ASKING = Set.of("of", "told", "point", "gone", "code", "next", "meeting", "fits", "odds", "mean",
        "after", "looked", "judge", "count", "peek");

    /** Whether a call that answered so may have changed something: a refused or an asking one may not. */
    static boolean mayChange(String name, long answer) {
        // read() empties THE TEXT by a FAULT, too.
        return !ASKING.contains(name) && (answer >= 0 || name.equals("read"));
    }

    long call(String name, long... a);

    /** One call, to be made again on other objects. */
    record Said(String name, long... a) {
        long on(Calls x) {
            return x.call(name, a);
        }

        @Override
        public String toString() {
            String inside = Arrays.toString(a);
            return name + "(" + inside.substring(1, inside.length() - 1) + ")";
        }
    }

    /** The class under test behind this interface. */
    final class Real implements Calls {
        private final SwappedIntervals x = new SwappedIntervals();

        @Override
        public long call(String name, long... a) {
            int p = a.length > 0 ? (int) a[0] : 0;
            int q = a.length > 1 ? (int) a[1] : 0;
            switch (name) {
                case "letters": return x.letters(p);
                case "bottom": return x.bottom(p);
                case "length": return x.length(p, q);
                case "swap": return x.swap(p, q);
                case "step": return x.step();
                case "back": return x.back(p);
                case "takeBack": return x.takeBack();
                case "keep": return x.keep();
                case "feed": return x.feed(p);
                case "read": return x.read();
                case "of": return x.of(p, q);
                case "told": return x.told(p);
                case "point": return x.point(p, q);
                case "gone": return x.gone(p, q);
                case "code": return x.code(p);
                case "next": return x.next(p, q);
                case "meeting": return x.meeting(p);
                case "see": return x.see(p, q);
                case "fits": return x.fits(p, q);
                case "odds": return x.odds(p);
                case "mean": return x.mean(p);
                case "event": return x.event(p, q);
                case "after": return x.after(p);
                case "book": return x.book(p, q);
                case "looked": return x.looked();
                case "judge": return x.judge(p, q);
                case "image": return x.image();
                case "undo": return x.undo();
                case "count": return x.count(p);
                case "tape": return x.tape(p, q, (int) a[2]);
                case "item": return x.item(p, q, a[2]);
                case "peek": return x.peek(p, q);
                case "shift": return x.shift(p, q, (int) a[2], (int) a[3], (int) a[4]);
                default: throw new IllegalArgumentException(name);
            }
        }
    }
}
