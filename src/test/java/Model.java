import java.util.ArrayDeque;
import java.util.ArrayList;
import java.util.Arrays;
import java.util.Deque;
import java.util.HashMap;
import java.util.HashSet;
import java.util.List;
import java.util.Map;
import java.util.Set;
import java.util.TreeSet;
import java.util.regex.Matcher;
import java.util.regex.Pattern;

/**
 * The document a second time, written as unlike the class as can be: rows are texts, POINTS are
 * texts of a LETTER and a place in it, a FAULT is what a pattern can't begin with.
 */
final class Model implements Calls {
    private static final int NONE = -1, BAD = -2, STATE = -3, FULL = -4, NOT = -5;
    private static final long NO = Long.MIN_VALUE;
    private static final String CLAUSE = "(?:n\\d|l\\d\\d{1,3}|r\\d{1,5}|b\\d|w\\d\\d|s|k|u)";
    private static final Pattern SETUP = Pattern.compile(CLAUSE + "(?:;" + CLAUSE + "){0,11}");

    /** What a DEED changes. */
    private record Shape(String top, String bottom, Map<Character, Integer> lengths) { }

    private record Image(Shape shape, String kept, List<int[]> seen, List<int[]> events, List<int[]> book) { }

    private record Row(int sort, long[] items) { }

    private Shape shape = first(3);
    private String kept = "321";
    private List<int[]> seen = new ArrayList<>();
    private List<int[]> events = new ArrayList<>();
    private List<int[]> book = new ArrayList<>();
    private final StringBuilder text = new StringBuilder();
    private final Deque<Shape> deeds = new ArrayDeque<>();
    private Image image = null;
    private final Row[] tapes = new Row[6];

    private static Shape first(int n) {
        String top = "01234".substring(0, n);
        Map<Character, Integer> lengths = new HashMap<>();
        for (char c : top.toCharArray()) {
            lengths.put(c, 1);
        }
        return new Shape(top, new StringBuilder(top).reverse().toString(), lengths);
    }

    private static Map<Character, Integer> with(Map<Character, Integer> lengths, char letter, int v) {
        Map<Character, Integer> changed = new HashMap<>(lengths);
        changed.put(letter, v);
        return changed;
    }

    private static char last(String row) {
        return row.charAt(row.length() - 1);
    }

    /** Takes one letter out of a row and puts it right behind another. */
    private static String behind(String row, char moved, char front) {
        return row.replace("" + moved, "").replace("" + front, "" + front + moved);
    }

    private static Shape moved(Shape s, int kind) {
        char t = last(s.top);
        char b = last(s.bottom);
        return kind == 0 ? new Shape(s.top, behind(s.bottom, b, t), s.lengths)
            : new Shape(behind(s.top, t, b), s.bottom, s.lengths);
    }

    private static int stepKind(Shape s) {
        int d = Integer.compare(s.lengths.get(last(s.top)), s.lengths.get(last(s.bottom)));
        return d == 0 ? NONE : d > 0 ? 0 : 1;
    }

    private static Shape stepped(Shape s) {
        int kind = stepKind(s);
        char t = last(s.top);
        char b = last(s.bottom);
        char great = kind == 0 ? t : b;
        char small = kind == 0 ? b : t;
        Shape m = moved(s, kind);
        return new Shape(m.top, m.bottom, with(s.lengths, great, s.lengths.get(great) - s.lengths.get(small)));
    }

    /** Null: there is no such letter behind. */
    private static Shape steppedBack(Shape s, int kind) {
        char stays = last(kind == 0 ? s.top : s.bottom);
        String row = kind == 0 ? s.bottom : s.top;
        if (last(row) == stays) {
            return null;
        }
        char moves = row.charAt(row.indexOf(stays) + 1);
        String changed = row.replace("" + moves, "") + moves;
        Map<Character, Integer> lengths = with(s.lengths, stays, s.lengths.get(stays) + s.lengths.get(moves));
        return kind == 0 ? new Shape(s.top, changed, lengths) : new Shape(changed, s.bottom, lengths);
    }

    private static boolean tooLong(Shape s) {
        return s.lengths.values().stream().anyMatch(v -> v > 99);
    }

    private static int sum(Shape s) {
        return s.lengths.values().stream().mapToInt(v -> v).sum();
    }

    private static String codeOf(Shape s) {
        StringBuilder code = new StringBuilder();
        for (char c : s.bottom.toCharArray()) {
            code.append(s.top.indexOf(c) + 1);
        }
        return code.toString();
    }

    private static Shape shapeOf(String code) {
        StringBuilder bottom = new StringBuilder();
        for (char c : code.toCharArray()) {
            bottom.append((char) (c - 1));
        }
        return new Shape("01234".substring(0, code.length()), bottom.toString(), first(code.length()).lengths);
    }

    private boolean isCode(long code) {
        char[] digits = Long.toString(code).toCharArray();
        Arrays.sort(digits);
        return new String(digits).equals("12345".substring(0, n()));
    }

    private int n() {
        return shape.top.length();
    }

    private static boolean whole(Shape s) {
        for (int k = 1; k < s.top.length(); k++) {
            Set<Character> a = new HashSet<>();
            Set<Character> b = new HashSet<>();
            for (int i = 0; i < k; i++) {
                a.add(s.top.charAt(i));
                b.add(s.bottom.charAt(i));
            }
            if (a.equals(b)) {
                return false;
            }
        }
        return true;
    }

    private static List<String> line(Shape s, String row) {
        List<String> points = new ArrayList<>();
        for (char c : row.toCharArray()) {
            for (int i = 0; i < s.lengths.get(c); i++) {
                points.add(c + ":" + i);
            }
        }
        return points;
    }

    private static int[] goes(Shape s) {
        List<String> from = line(s, s.top);
        Map<String, Integer> to = new HashMap<>();
        List<String> by = line(s, s.bottom);
        for (int i = 0; i < by.size(); i++) {
            to.put(by.get(i), i);
        }
        return from.stream().mapToInt(to::get).toArray();
    }

    private static String next(String code, int kind) {
        Shape s = shapeOf(code);
        return last(s.top) == last(s.bottom) ? null : codeOf(moved(s, kind));
    }

    /** CODES by how far they are. */
    private static Map<String, Integer> classOf(String code) {
        Map<String, Integer> far = new HashMap<>();
        Deque<String> open = new ArrayDeque<>();
        far.put(code, 0);
        open.add(code);
        while (!open.isEmpty()) {
            String here = open.poll();
            for (int kind = 0; kind < 2; kind++) {
                String there = next(here, kind);
                if (there != null && far.putIfAbsent(there, far.get(here) + 1) == null) {
                    open.add(there);
                }
            }
        }
        return far;
    }

    private int meeting(int m) {
        int n = n();
        if (m > 0 && shape.top.charAt(m - 1) == last(shape.bottom)) {
            return n;
        }
        int place = m == 0 ? 0 : shape.bottom.indexOf(shape.top.charAt(m - 1)) + 1;
        return shape.top.indexOf(shape.bottom.charAt(place)) + 1 - 1;
    }

    private static int lots(int[] to) {
        int[] lot = new int[to.length];
        for (int i = 0; i < to.length; i++) {
            lot[i] = i;
        }
        // A lot's number sinks to that of its least member.
        boolean changed = true;
        while (changed) {
            changed = false;
            for (int i = 0; i < to.length; i++) {
                int least = Math.min(lot[i], lot[to[i]]);
                if (lot[i] != least || lot[to[i]] != least) {
                    lot[i] = least;
                    lot[to[i]] = least;
                    changed = true;
                }
            }
        }
        return (int) Arrays.stream(lot).distinct().count();
    }

    private int corners() {
        int[] to = new int[n() + 1];
        for (int i = 0; i < to.length; i++) {
            to[i] = meeting(i);
        }
        return lots(to);
    }

    private int ends() {
        int steps = 0;
        for (Shape s = shape; stepKind(s) != NONE; s = stepped(s)) {
            steps++;
        }
        return steps;
    }

    private void deed(Shape to) {
        deeds.push(shape);
        if (deeds.size() > 12) {
            deeds.removeLast();
        }
        shape = to;
    }

    private boolean isLetter(long k) {
        return k >= 0 && k < n();
    }

    private int lengthOf(long letter) {
        return shape.lengths.get((char) ('0' + letter));
    }

    @Override
    public long call(String name, long... a) {
        long p = a.length > 0 ? a[0] : 0;
        long q = a.length > 1 ? a[1] : 0;
        switch (name) {
            case "letters": case "bottom": case "length": case "swap": case "step": case "back":
            case "takeBack": case "keep":
                return deedCall(name, p, q);
            case "feed":
                if (p < 0 || p > 127) {
                    return BAD;
                }
                if (text.length() == 100) {
                    return FULL;
                }
                text.append((char) p);
                return text.length();
            case "read": return read();
            case "of":
                if (!isLetter(p) || q < 0 || q > 2) {
                    return NONE;
                }
                return q == 2 ? lengthOf(p) : (q == 0 ? shape.top : shape.bottom).charAt((int) p) - '0';
            case "told": return told(p);
            case "point": case "gone": return pointCall(name, p, q);
            case "code": case "next": case "meeting": return shapeCall(name, p, q);
            case "see": case "event": case "book": return noteCall(name, p, q);
            case "fits": return fits(p, q);
            case "odds": case "mean": return fraction(name, p);
            case "after": return after(p);
            case "looked": return looked();
            case "image":
                image = new Image(shape, kept, List.copyOf(seen), List.copyOf(events), List.copyOf(book));
                return sum(shape);
            case "undo": return undo();
            case "count": return count(p);
            default: return tapeCall(name, a);
        }
    }

    private long deedCall(String name, long p, long q) {
        switch (name) {
            case "letters": {
                if (p < 2 || p > 5) {
                    return BAD;
                }
                int before = n();
                shape = first((int) p);
                kept = codeOf(shape);
                deeds.clear();
                return before;
            }
            case "bottom":
                if (!isCode(p)) {
                    return BAD;
                }
                Shape told = shapeOf(Long.toString(p));
                shape = new Shape(told.top, told.bottom, shape.lengths);
                deeds.clear();
                return 1;
            case "length": {
                if (!isLetter(p)) {
                    return NONE;
                }
                if (q < 1 || q > 99) {
                    return BAD;
                }
                int before = lengthOf(p);
                deed(new Shape(shape.top, shape.bottom, with(shape.lengths, (char) ('0' + p), (int) q)));
                return before;
            }
            case "swap":
                if (!isLetter(p) || !isLetter(q) || p == q) {
                    return NONE;
                }
                deed(new Shape(shape.top, shape.bottom.replace("" + p, "x").replace("" + q, "" + p).replace("x", "" + q), shape.lengths));
                return 1;
            case "step":
                int kind = stepKind(shape);
                if (kind == NONE) {
                    return STATE;
                }
                deed(stepped(shape));
                return kind;
            case "back":
                if (p != 0 && p != 1) {
                    return NONE;
                }
                Shape to = steppedBack(shape, (int) p);
                if (to == null) {
                    return STATE;
                }
                if (tooLong(to)) {
                    return BAD;
                }
                deed(to);
                return sum(shape);
            case "takeBack":
                if (deeds.isEmpty()) {
                    return STATE;
                }
                shape = deeds.pop();
                return deeds.size();
            default:
                kept = codeOf(shape);
                return Long.parseLong(kept);
        }
    }

    private long read() {
        String whole = text.toString();
        text.setLength(0);
        for (int end = 1; end <= whole.length(); end++) {
            Matcher m = SETUP.matcher(whole.substring(0, end));
            if (!m.matches() && !m.hitEnd()) {
                return -10 - (end - 1);
            }
        }
        if (!SETUP.matcher(whole).matches()) {
            return -10 - whole.length();
        }
        int done = 0;
        for (String clause : whole.split(";")) {
            String rest = clause.substring(1);
            long answer;
            switch (clause.charAt(0)) {
                case 'n': answer = call("letters", Long.parseLong(rest)); break;
                case 'l': answer = call("length", rest.charAt(0) - '0', Long.parseLong(rest.substring(1))); break;
                case 'r': answer = call("bottom", Long.parseLong(rest)); break;
                case 's': answer = call("step"); break;
                case 'b': answer = call("back", Long.parseLong(rest)); break;
                case 'w': answer = call("swap", rest.charAt(0) - '0', rest.charAt(1) - '0'); break;
                case 'k': answer = call("keep"); break;
                default: answer = call("takeBack"); break;
            }
            done += answer < 0 ? 0 : 1;
        }
        return done;
    }

    private long told(long what) {
        if (what < 0 || what > 10) {
            return NONE;
        }
        switch ((int) what) {
            case 0: return n();
            case 1: return sum(shape);
            case 2: return Long.parseLong(codeOf(shape));
            case 3: return Long.parseLong(kept);
            case 4: return whole(shape) ? 1 : 0;
            case 5: return classOf(codeOf(shape)).size();
            case 6: return classOf(codeOf(shape)).getOrDefault(kept, NOT);
            case 7: return corners();
            case 8: return whole(shape) ? (n() + 1 - corners()) / 2 : NOT;
            case 9: return lots(goes(shape));
            default: return ends();
        }
    }

    private long pointCall(String name, long p, long q) {
        int[] to = goes(shape);
        if (p < 0 || p >= to.length) {
            return NONE;
        }
        int here = (int) p;
        if (name.equals("gone")) {
            if (q < 0 || q > 9999) {
                return BAD;
            }
            for (int i = 0; i < q; i++) {
                here = to[here];
            }
            return here;
        }
        if (q < 0 || q > 2) {
            return NONE;
        }
        if (q == 0) {
            return to[here];
        }
        if (q == 1) {
            return line(shape, shape.top).get(here).charAt(0) - '0';
        }
        int times = 0;
        do {
            here = to[here];
            times++;
        } while (here != p);
        return times;
    }

    private long shapeCall(String name, long p, long q) {
        switch (name) {
            case "code":
                if (p < 0) {
                    return NONE;
                }
                List<String> codes = new ArrayList<>(new TreeSet<>(classOf(codeOf(shape)).keySet()));
                return p < codes.size() ? Long.parseLong(codes.get((int) p)) : NOT;
            case "next":
                if (q != 0 && q != 1) {
                    return NONE;
                }
                if (!isCode(p)) {
                    return BAD;
                }
                String code = next(Long.toString(p), (int) q);
                return code == null ? NOT : Long.parseLong(code);
            default:
                return p < 0 || p > n() ? NONE : meeting((int) p);
        }
    }

    private long noteCall(String name, long p, long q) {
        List<int[]> notes = name.equals("see") ? seen : name.equals("event") ? events : book;
        if (p == -1) {
            notes.clear();
            return 0;
        }
        switch (name) {
            case "see":
                if (p < 0 || p > 499 || q < 0 || q > 499) {
                    return BAD;
                }
                break;
            case "event":
                if (p < 0 || p > 2 || p == 1 && !isLetter(q) || p == 2 && q != 0 && q != 1) {
                    return NONE;
                }
                if (p == 0 && q != 0) {
                    return BAD;
                }
                break;
            default:
                if (!isLetter(p)) {
                    return NONE;
                }
                if (q < 1 || q > 99) {
                    return BAD;
                }
                break;
        }
        if (notes.size() == (name.equals("see") ? 4 : 8)) {
            return FULL;
        }
        notes.add(new int[] {(int) p, (int) q});
        return notes.size();
    }

    private long fits(long letter, long what) {
        if (!isLetter(letter) || what < 0 || what > 1) {
            return NONE;
        }
        List<Integer> fitting = new ArrayList<>();
        for (int v = 1; v <= 40; v++) {
            int[] to = goes(new Shape(shape.top, shape.bottom, with(shape.lengths, (char) ('0' + letter), v)));
            if (seen.stream().allMatch(row -> row[0] < to.length && to[row[0]] == row[1])) {
                fitting.add(v);
            }
        }
        return what == 0 ? fitting.size() : fitting.isEmpty() ? NOT : fitting.get(0);
    }

    private long fraction(String name, long part) {
        if (part != 0 && part != 1) {
            return NO;
        }
        int[] to = goes(shape);
        long above = 0;
        for (int i = 0; i < to.length; i++) {
            above += name.equals("odds") ? (to[i] < i ? 1 : 0) : Math.max(to[i] - i, i - to[i]);
        }
        long below = to.length;
        for (long d = below; d > 1; d--) {
            if (above % d == 0 && below % d == 0) {
                above /= d;
                below /= d;
            }
        }
        return part == 0 ? above : below;
    }

    private long after(long what) {
        if (what < 0 || what > 2) {
            return NONE;
        }
        Shape s = shape;
        for (int[] row : events) {
            if (row[0] == 0) {
                s = stepKind(s) == NONE ? s : stepped(s);
            } else if (row[0] == 1) {
                char letter = (char) ('0' + row[1]);
                if (s.lengths.containsKey(letter) && s.lengths.get(letter) < 99) {
                    s = new Shape(s.top, s.bottom, with(s.lengths, letter, s.lengths.get(letter) + 1));
                }
            } else {
                Shape to = steppedBack(s, row[1]);
                s = to == null || tooLong(to) ? s : to;
            }
        }
        return what == 0 ? sum(s) : what == 1 ? Long.parseLong(codeOf(s)) : whole(s) ? 1 : 0;
    }

    private long looked() {
        for (int i = 0; i < book.size(); i++) {
            int[] row = book.get(i);
            if (!isLetter(row[0]) || lengthOf(row[0]) != row[1]) {
                return i;
            }
        }
        return NOT;
    }

    private long undo() {
        if (image == null) {
            return STATE;
        }
        shape = image.shape;
        kept = image.kept;
        seen = new ArrayList<>(image.seen);
        events = new ArrayList<>(image.events);
        book = new ArrayList<>(image.book);
        deeds.clear();
        return sum(shape);
    }

    private long count(long what) {
        int[] counts = {seen.size(), events.size(), book.size(), text.length(), deeds.size()};
        return what < 0 || what >= counts.length ? BAD : counts[(int) what];
    }

    private long tapeCall(String name, long[] a) {
        boolean isTape = a[0] >= 0 && a[0] <= 5;
        Row row = isTape ? tapes[(int) a[0]] : null;
        boolean isPlace = row != null && a[1] >= 0 && a[1] < row.items.length;
        switch (name) {
            case "judge": return !isTape ? NONE : judge(row, a[1]);
            case "tape":
                if (!isTape) {
                    return NONE;
                }
                if (a[1] < -1 || a[1] > 4 || a[1] != -1 && a[2] > 60) {
                    return BAD;
                }
                if (a[1] != -1 && a[2] < 0) {
                    return -14;
                }
                tapes[(int) a[0]] = a[1] == -1 ? null : new Row((int) a[1], new long[(int) a[2]]);
                return 1;
            case "item":
                if (!isTape || row == null || !isPlace) {
                    return !isTape ? NONE : row == null ? -11 : -13;
                }
                int bits = new int[] {8, 16, 32, 64, 1}[row.sort];
                row.items[(int) a[1]] = row.sort == 4 ? (a[2] == 0 ? 0 : 1) : a[2] << (64 - bits) >> (64 - bits);
                return 1;
            case "peek": return isPlace ? row.items[(int) a[1]] : NO;
            default: return shift(a);
        }
    }

    private long judge(Row row, long i) {
        if (row != null && row.sort != 1) {
            return -12;
        }
        for (int letter = 0; letter < n(); letter++) {
            if (row == null || i < 0 || i + letter >= row.items.length) {
                return 100 + letter;
            }
            if (row.items[(int) i + letter] != lengthOf(letter)) {
                return letter;
            }
        }
        return NOT;
    }

    private long shift(long[] a) {
        if (a[0] < 0 || a[0] > 5 || a[2] < 0 || a[2] > 5) {
            return NONE;
        }
        Row from = tapes[(int) a[0]];
        Row to = tapes[(int) a[2]];
        if (from == null || to == null) {
            return -11;
        }
        if (from.sort != to.sort) {
            return -12;
        }
        if (a[4] < 0 || a[1] < 0 || a[3] < 0 || a[1] + a[4] > from.items.length || a[3] + a[4] > to.items.length) {
            return -13;
        }
        long[] were = from.items.clone();
        for (int k = 0; k < a[4]; k++) {
            to.items[(int) a[3] + k] = were[(int) a[1] + k];
        }
        return a[4];
    }
}
