import java.util.Arrays;

/**
 * Intervals cut and swapped. The words in capitals in the comments are those of the document;
 * README.md tells how the classes below share the work.
 */
public final class SwappedIntervals {
    public static final int NONE = -1, BAD = -2, STATE = -3, FULL = -4;
    public static final long NO = Long.MIN_VALUE;

    private static final int NOT_SO = -5;
    private static final int FAULT_BASE = -10;
    private static final int NOTHING = -11, CAST = -12, PLACE = -13, SIZE = -14;
    private static final int JUDGED_SHORT = 100;

    private static final int FEWEST_LETTERS = 2, MOST_LETTERS = 5, FIRST_LETTERS = 3;
    private static final int MOST_LENGTH = 99;
    private static final int MOST_POINTS = MOST_LETTERS * MOST_LENGTH;
    private static final int MOST_TIMES = 9999;
    private static final int MOST_CODES = 120;
    private static final int MOST_DEEDS = 12;
    private static final int MOST_SIGNS = 100, MOST_CLAUSES = 12;
    private static final int MOST_SEEN = 4, MOST_EVENTS = 8, MOST_BOOK = 8;
    private static final int LAST_SEEN_POINT = 499;
    private static final int MOST_FITTING = 40;
    private static final int TAPES = 6, MOST_ITEMS = 60;
    private static final int EMPTY = -1, BYTES = 0, SHORTS = 1, INTS = 2, LONGS = 3, BOOLEANS = 4;

    private final Setup now = new Setup();
    private final Setup shot = new Setup();
    private boolean isShot = false;
    private final Deeds deeds = new Deeds();
    private final Text text = new Text();
    private final Line line = new Line();
    private final Shapes shapes = new Shapes();
    private final Rows trial = new Rows();
    private final Tape[] tapes = new Tape[TAPES];

    public SwappedIntervals() {
        for (int i = 0; i < TAPES; i++) {
            tapes[i] = new Tape();
        }
    }

    // ---- letters, lengths

    public int letters(int n) {
        if (n < FEWEST_LETTERS || n > MOST_LETTERS) {
            return BAD;
        }
        int before = now.rows.n;
        now.begin(n);
        deeds.forget();
        return before;
    }

    public int bottom(int code) {
        if (!Rows.isCode(code, now.rows.n)) {
            return BAD;
        }
        now.rows.layCode(code);
        deeds.forget();
        return 1;
    }

    public int length(int letter, int v) {
        if (!now.rows.hasLetter(letter)) {
            return NONE;
        }
        if (!isLength(v)) {
            return BAD;
        }
        deeds.remember(now.rows);
        int before = now.rows.lengths[letter];
        now.rows.lengths[letter] = v;
        return before;
    }

    public int swap(int x, int y) {
        if (!now.rows.hasLetter(x) || !now.rows.hasLetter(y) || x == y) {
            return NONE;
        }
        deeds.remember(now.rows);
        now.rows.swapInBottom(x, y);
        return 1;
    }

    public int step() {
        int kind = now.rows.kindOfStep();
        if (kind == NONE) {
            return STATE;
        }
        deeds.remember(now.rows);
        now.rows.goStep(kind);
        return kind;
    }

    public int back(int kind) {
        if (!isKind(kind)) {
            return NONE;
        }
        int refusal = now.rows.refusalOfStepBack(kind);
        if (refusal < 0) {
            return refusal;
        }
        deeds.remember(now.rows);
        now.rows.goStepBack(kind);
        return now.rows.points();
    }

    public int takeBack() {
        if (deeds.size == 0) {
            return STATE;
        }
        deeds.restoreLatest(now.rows);
        return deeds.size;
    }

    public int keep() {
        now.kept = now.rows.codeNow();
        return now.kept;
    }

    public int feed(int sign) {
        if (sign < 0 || sign > 127) {
            return BAD;
        }
        return text.add(sign);
    }

    public int read() {
        int fault = text.findFault();
        text.clear();
        if (fault != NONE) {
            return FAULT_BASE - fault;
        }
        int done = 0;
        for (int i = 0; i < text.clauses; i++) {
            if (doClause(text.kinds[i], text.firsts[i], text.seconds[i]) >= 0) {
                done++;
            }
        }
        return done;
    }

    /** Every answer below 0 is a refusal: no call that a clause stands for answers so otherwise. */
    private int doClause(int kind, int first, int second) {
        switch (kind) {
            case 'n': return letters(first);
            case 'l': return length(first, second);
            case 'r': return bottom(first);
            case 's': return step();
            case 'b': return back(first);
            case 'w': return swap(first, second);
            case 'k': return keep();
            case 'u': return takeBack();
            default: return NONE;
        }
    }

    // ---- what is told

    public int of(int k, int what) {
        if (!now.rows.hasLetter(k)) {
            return NONE;
        }
        switch (what) {
            case 0: return now.rows.top[k];
            case 1: return now.rows.bottom[k];
            case 2: return now.rows.lengths[k];
            default: return NONE;
        }
    }

    public int told(int what) {
        switch (what) {
            case 0: return now.rows.n;
            case 1: return now.rows.points();
            case 2: return now.rows.codeNow();
            case 3: return now.kept;
            case 4: return now.rows.isWhole() ? 1 : 0;
            case 5: return exploreClass();
            case 6: return stepsToKept();
            case 7: return now.rows.corners();
            case 8: return genus();
            case 9: return rounds();
            case 10: return ends();
            default: return NONE;
        }
    }

    private int exploreClass() {
        shapes.explore(now.rows.codeNow(), now.rows.n);
        return shapes.found;
    }

    private int stepsToKept() {
        exploreClass();
        return shapes.stepsTo(now.kept);
    }

    private int genus() {
        if (!now.rows.isWhole()) {
            return NOT_SO;
        }
        return (now.rows.n + 1 - now.rows.corners()) / 2;
    }

    private int rounds() {
        line.lay(now.rows);
        return line.rounds();
    }

    private int ends() {
        trial.copyFrom(now.rows);
        for (int steps = 0; steps < MOST_TIMES; steps++) {
            int kind = trial.kindOfStep();
            if (kind == NONE) {
                return steps;
            }
            trial.goStep(kind);
        }
        return MOST_TIMES;
    }

    public int point(int point, int what) {
        if (!now.rows.hasPoint(point)) {
            return NONE;
        }
        switch (what) {
            case 0: return now.rows.goesTo(point);
            case 1: return now.rows.letterAt(point);
            case 2: return period(point);
            default: return NONE;
        }
    }

    private int period(int point) {
        line.lay(now.rows);
        return line.periodOf(point);
    }

    public int gone(int point, int n) {
        if (!now.rows.hasPoint(point)) {
            return NONE;
        }
        if (n < 0 || n > MOST_TIMES) {
            return BAD;
        }
        line.lay(now.rows);
        return line.behind(point, n);
    }

    // ---- classes, meetings

    public int code(int i) {
        if (i < 0) {
            return NONE;
        }
        exploreClass();
        return shapes.codeOfRank(i);
    }

    public int next(int code, int kind) {
        if (!isKind(kind)) {
            return NONE;
        }
        if (!Rows.isCode(code, now.rows.n)) {
            return BAD;
        }
        return shapes.follow(code, now.rows.n, kind);
    }

    public int meeting(int meeting) {
        if (meeting < 0 || meeting > now.rows.n) {
            return NONE;
        }
        return now.rows.meetingBehind(meeting);
    }

    // ---- seen, odds

    public int see(int point, int to) {
        if (point == -1) {
            return now.seen.clear();
        }
        if (!canBeSeen(point) || !canBeSeen(to)) {
            return BAD;
        }
        return now.seen.add(point, to);
    }

    private static boolean canBeSeen(int point) {
        return point >= 0 && point <= LAST_SEEN_POINT;
    }

    public int fits(int letter, int what) {
        if (!now.rows.hasLetter(letter) || what < 0 || what > 1) {
            return NONE;
        }
        trial.copyFrom(now.rows);
        int many = 0;
        int least = NOT_SO;
        for (int v = 1; v <= MOST_FITTING; v++) {
            trial.lengths[letter] = v;
            if (isAllSeen(trial)) {
                many++;
                if (least == NOT_SO) {
                    least = v;
                }
            }
        }
        return what == 0 ? many : least;
    }

    private boolean isAllSeen(Rows rows) {
        for (int i = 0; i < now.seen.size; i++) {
            int point = now.seen.firsts[i];
            if (!rows.hasPoint(point) || rows.goesTo(point) != now.seen.seconds[i]) {
                return false;
            }
        }
        return true;
    }

    public long odds(int part) {
        line.lay(now.rows);
        return partInLowestTerms(line.goingDown(), line.points, part);
    }

    public long mean(int part) {
        line.lay(now.rows);
        return partInLowestTerms(line.wayTogether(), line.points, part);
    }

    private static long partInLowestTerms(int above, int below, int part) {
        if (part != 0 && part != 1) {
            return NO;
        }
        int divisor = greatestDivisor(above, below);
        if (divisor < 1) {
            return NO;
        }
        return part == 0 ? above / divisor : below / divisor;
    }

    private static int greatestDivisor(int a, int b) {
        int greater = a;
        int lesser = b;
        // Euclid needs fewer than 50 rounds for any two ints.
        for (int i = 0; i < 64 && lesser != 0; i++) {
            int rest = greater % lesser;
            greater = lesser;
            lesser = rest;
        }
        return greater;
    }

    // ---- events, books

    public int event(int what, int n) {
        if (what == -1) {
            return now.events.clear();
        }
        if (what < 0 || what > 2) {
            return NONE;
        }
        if (what == 1 && !now.rows.hasLetter(n)) {
            return NONE;
        }
        if (what == 2 && !isKind(n)) {
            return NONE;
        }
        if (what == 0 && n != 0) {
            return BAD;
        }
        return now.events.add(what, n);
    }

    public int after(int what) {
        if (what < 0 || what > 2) {
            return NONE;
        }
        trial.copyFrom(now.rows);
        for (int i = 0; i < now.events.size; i++) {
            trial.happen(now.events.firsts[i], now.events.seconds[i]);
        }
        switch (what) {
            case 0: return trial.points();
            case 1: return trial.codeNow();
            default: return trial.isWhole() ? 1 : 0;
        }
    }

    public int book(int letter, int v) {
        if (letter == -1) {
            return now.book.clear();
        }
        if (!now.rows.hasLetter(letter)) {
            return NONE;
        }
        if (!isLength(v)) {
            return BAD;
        }
        return now.book.add(letter, v);
    }

    public int looked() {
        for (int i = 0; i < now.book.size; i++) {
            int letter = now.book.firsts[i];
            if (!now.rows.hasLetter(letter) || now.rows.lengths[letter] != now.book.seconds[i]) {
                return i;
            }
        }
        return NOT_SO;
    }

    // ---- judging, the image, tapes

    public int judge(int tape, int i) {
        if (!isTape(tape)) {
            return NONE;
        }
        Tape row = tapes[tape];
        if (row.sort == EMPTY) {
            return JUDGED_SHORT;
        }
        if (row.sort != SHORTS) {
            return CAST;
        }
        if (i < 0) {
            return JUDGED_SHORT;
        }
        for (int letter = 0; letter < now.rows.n; letter++) {
            // Written as a difference: i + letter could wrap around.
            if (i >= row.size - letter) {
                return JUDGED_SHORT + letter;
            }
            if (row.items[i + letter] != now.rows.lengths[letter]) {
                return letter;
            }
        }
        return NOT_SO;
    }

    public int image() {
        shot.copyFrom(now);
        isShot = true;
        return now.rows.points();
    }

    public int undo() {
        if (!isShot) {
            return STATE;
        }
        now.copyFrom(shot);
        deeds.forget();
        return now.rows.points();
    }

    public int count(int what) {
        switch (what) {
            case 0: return now.seen.size;
            case 1: return now.events.size;
            case 2: return now.book.size;
            case 3: return text.size;
            case 4: return deeds.size;
            default: return BAD;
        }
    }

    public int tape(int tape, int sort, int n) {
        if (!isTape(tape)) {
            return NONE;
        }
        if (sort == EMPTY) {
            tapes[tape].become(EMPTY, 0);
            return 1;
        }
        if (sort < BYTES || sort > BOOLEANS || n > MOST_ITEMS) {
            return BAD;
        }
        if (n < 0) {
            return SIZE;
        }
        tapes[tape].become(sort, n);
        return 1;
    }

    public int item(int tape, int i, long v) {
        if (!isTape(tape)) {
            return NONE;
        }
        if (tapes[tape].sort == EMPTY) {
            return NOTHING;
        }
        if (!tapes[tape].hasPlace(i)) {
            return PLACE;
        }
        tapes[tape].put(i, v);
        return 1;
    }

    public long peek(int tape, int i) {
        if (!isTape(tape) || !tapes[tape].hasPlace(i)) {
            return NO;
        }
        return tapes[tape].items[i];
    }

    public int shift(int tape, int i, int other, int j, int n) {
        if (!isTape(tape) || !isTape(other)) {
            return NONE;
        }
        Tape from = tapes[tape];
        Tape to = tapes[other];
        if (from.sort == EMPTY || to.sort == EMPTY) {
            return NOTHING;
        }
        if (from.sort != to.sort) {
            return CAST;
        }
        if (!from.hasRun(i, n) || !to.hasRun(j, n)) {
            return PLACE;
        }
        System.arraycopy(from.items, i, to.items, j, n);
        return n;
    }

    private static boolean isTape(int tape) {
        return tape >= 0 && tape < TAPES;
    }

    private static boolean isKind(int kind) {
        return kind == 0 || kind == 1;
    }

    private static boolean isLength(int v) {
        return v >= 1 && v <= MOST_LENGTH;
    }

    /** TOP, BOTTOM and LENGTHS: what a DEED changes, and what STEPS and POINTS go by. */
    private static final class Rows {
        int n;
        final int[] top = new int[MOST_LETTERS];
        final int[] bottom = new int[MOST_LETTERS];
        final int[] lengths = new int[MOST_LETTERS];

        Rows() {
            begin(FIRST_LETTERS);
        }

        void begin(int letters) {
            n = Math.max(FEWEST_LETTERS, Math.min(letters, MOST_LETTERS));
            for (int i = 0; i < n; i++) {
                top[i] = i;
                bottom[i] = n - 1 - i;
                lengths[i] = 1;
            }
        }

        void copyFrom(Rows other) {
            n = other.n;
            for (int i = 0; i < MOST_LETTERS; i++) {
                top[i] = other.top[i];
                bottom[i] = other.bottom[i];
                lengths[i] = other.lengths[i];
            }
        }

        boolean hasLetter(int letter) {
            return letter >= 0 && letter < n;
        }

        boolean hasPoint(int point) {
            return point >= 0 && point < points();
        }

        int points() {
            int sum = 0;
            for (int i = 0; i < n; i++) {
                sum += lengths[i];
            }
            return sum;
        }

        static boolean isCode(int code, int n) {
            int rest = code;
            int met = 0;
            for (int i = 0; i < n; i++) {
                int digit = rest % 10;
                if (digit < 1 || digit > n) {
                    return false;
                }
                met |= 1 << digit;
                rest /= 10;
            }
            return rest == 0 && met == (1 << (n + 1)) - 2;
        }

        /** The code must be one of n LETTERS. */
        void layCode(int code) {
            int rest = code;
            for (int i = n - 1; i >= 0; i--) {
                top[i] = i;
                bottom[i] = rest % 10 - 1;
                rest /= 10;
            }
        }

        int codeNow() {
            int code = 0;
            for (int i = 0; i < n; i++) {
                code = code * 10 + placeIn(top, bottom[i]) + 1;
            }
            return code;
        }

        int placeIn(int[] row, int letter) {
            for (int i = 0; i < n; i++) {
                if (row[i] == letter) {
                    return i;
                }
            }
            return NONE;
        }

        int letterBehind(int[] row, int letter) {
            int place = placeIn(row, letter);
            return place >= 0 && place < n - 1 ? row[place + 1] : NONE;
        }

        void swapInBottom(int x, int y) {
            for (int i = 0; i < n; i++) {
                if (bottom[i] == x) {
                    bottom[i] = y;
                } else if (bottom[i] == y) {
                    bottom[i] = x;
                }
            }
        }

        boolean isWhole() {
            int inTop = 0;
            int inBottom = 0;
            for (int i = 0; i < n - 1; i++) {
                inTop |= 1 << top[i];
                inBottom |= 1 << bottom[i];
                if (inTop == inBottom) {
                    return false;
                }
            }
            return true;
        }

        /** The row whose last LETTER stays and has the greater LENGTH, by KIND. */
        int[] stayingRow(int kind) {
            return kind == 0 ? top : bottom;
        }

        int[] movingRow(int kind) {
            return kind == 0 ? bottom : top;
        }

        boolean endsAlike() {
            return top[n - 1] == bottom[n - 1];
        }

        int kindOfStep() {
            int t = lengths[top[n - 1]];
            int b = lengths[bottom[n - 1]];
            if (endsAlike() || t == b) {
                return NONE;
            }
            return t > b ? 0 : 1;
        }

        void goStep(int kind) {
            int stays = stayingRow(kind)[n - 1];
            int moves = movingRow(kind)[n - 1];
            lengths[stays] -= lengths[moves];
            moveForStep(kind);
        }

        void moveForStep(int kind) {
            int stays = stayingRow(kind)[n - 1];
            int[] row = movingRow(kind);
            int moves = row[n - 1];
            int place = n - 1;
            for (; place > 0 && row[place - 1] != stays; place--) {
                row[place] = row[place - 1];
            }
            row[place] = moves;
        }

        int refusalOfStepBack(int kind) {
            int stays = stayingRow(kind)[n - 1];
            int moves = letterBehind(movingRow(kind), stays);
            if (moves == NONE) {
                return STATE;
            }
            return lengths[stays] + lengths[moves] > MOST_LENGTH ? BAD : 0;
        }

        void goStepBack(int kind) {
            int stays = stayingRow(kind)[n - 1];
            int[] row = movingRow(kind);
            int moves = letterBehind(row, stays);
            if (moves == NONE) {
                return;
            }
            for (int i = placeIn(row, stays) + 1; i < n - 1; i++) {
                row[i] = row[i + 1];
            }
            row[n - 1] = moves;
            lengths[stays] += lengths[moves];
        }

        void happen(int what, int number) {
            if (what == 0) {
                int kind = kindOfStep();
                if (kind != NONE) {
                    goStep(kind);
                }
            } else if (what == 1) {
                if (hasLetter(number)) {
                    lengths[number] = Math.min(lengths[number] + 1, MOST_LENGTH);
                }
            } else if (refusalOfStepBack(number) == 0) {
                goStepBack(number);
            }
        }

        int letterAt(int point) {
            int end = 0;
            for (int i = 0; i < n; i++) {
                end += lengths[top[i]];
                if (point < end) {
                    return top[i];
                }
            }
            return NONE;
        }

        int startIn(int[] row, int letter) {
            int start = 0;
            for (int i = 0; i < n && row[i] != letter; i++) {
                start += lengths[row[i]];
            }
            return start;
        }

        int goesTo(int point) {
            int letter = letterAt(point);
            return point - startIn(top, letter) + startIn(bottom, letter);
        }

        int meetingBehind(int meeting) {
            int letter = meeting == 0 ? bottom[0] : letterBehind(bottom, top[meeting - 1]);
            return letter == NONE ? n : placeIn(top, letter);
        }

        int corners() {
            int met = 0;
            int lots = 0;
            for (int first = 0; first <= n; first++) {
                if ((met >> first & 1) == 0) {
                    lots++;
                    int meeting = first;
                    for (int i = 0; i <= n; i++) {
                        met |= 1 << meeting;
                        meeting = meetingBehind(meeting);
                    }
                }
            }
            return lots;
        }
    }

    /** Rows of two numbers told by hand: SEEN, EVENTS, the BOOK. */
    private static final class Notes {
        final int[] firsts;
        final int[] seconds;
        int size = 0;

        Notes(int most) {
            firsts = new int[Math.max(most, 0)];
            seconds = new int[Math.max(most, 0)];
        }

        int clear() {
            size = 0;
            return size;
        }

        int add(int first, int second) {
            if (size >= firsts.length) {
                return FULL;
            }
            firsts[size] = first;
            seconds[size] = second;
            size++;
            return size;
        }

        void copyFrom(Notes other) {
            clear();
            for (int i = 0; i < other.size; i++) {
                add(other.firsts[i], other.seconds[i]);
            }
        }
    }

    /** All that THE IMAGE holds. */
    private static final class Setup {
        final Rows rows = new Rows();
        int kept = rows.codeNow();
        final Notes seen = new Notes(MOST_SEEN);
        final Notes events = new Notes(MOST_EVENTS);
        final Notes book = new Notes(MOST_BOOK);

        void begin(int letters) {
            rows.begin(letters);
            kept = rows.codeNow();
        }

        void copyFrom(Setup other) {
            rows.copyFrom(other.rows);
            kept = other.kept;
            seen.copyFrom(other.seen);
            events.copyFrom(other.events);
            book.copyFrom(other.book);
        }
    }

    /** How it was ahead of each of the latest DEEDS: a ring, in which the oldest gives way. */
    private static final class Deeds {
        private final Rows[] ring = new Rows[MOST_DEEDS];
        private int end = 0;
        int size = 0;

        Deeds() {
            for (int i = 0; i < MOST_DEEDS; i++) {
                ring[i] = new Rows();
            }
        }

        void forget() {
            size = 0;
        }

        void remember(Rows rows) {
            ring[end].copyFrom(rows);
            end = end == MOST_DEEDS - 1 ? 0 : end + 1;
            size = Math.min(size + 1, MOST_DEEDS);
        }

        void restoreLatest(Rows rows) {
            if (size == 0) {
                return;
            }
            end = end == 0 ? MOST_DEEDS - 1 : end - 1;
            size--;
            rows.copyFrom(ring[end]);
        }
    }

    /** THE TEXT, and the CLAUSES found in it the last time that it was read. */
    private static final class Text {
        private final byte[] signs = new byte[MOST_SIGNS];
        private int at = 0;
        int size = 0;
        int clauses = 0;
        final int[] kinds = new int[MOST_CLAUSES];
        final int[] firsts = new int[MOST_CLAUSES];
        final int[] seconds = new int[MOST_CLAUSES];

        int add(int sign) {
            if (size >= MOST_SIGNS) {
                return FULL;
            }
            signs[size] = (byte) sign;
            size++;
            return size;
        }

        void clear() {
            size = 0;
        }

        /** Looks for CLAUSES up to the FAULT: NONE, if there is no FAULT. */
        int findFault() {
            at = 0;
            clauses = 0;
            for (int i = 0; i < MOST_CLAUSES; i++) {
                if (!takeClause(i)) {
                    return at;
                }
                clauses = i + 1;
                if (at == size) {
                    return NONE;
                }
                // A ; behind the last CLAUSE that there may be begins nothing.
                if (signHere() != ';' || clauses == MOST_CLAUSES) {
                    return at;
                }
                at++;
            }
            return at;
        }

        /** False, if it is broken: at is then where it is. */
        private boolean takeClause(int i) {
            int kind = signHere();
            int digitsOfFirst = mostDigits(kind, 0);
            if (digitsOfFirst == NONE) {
                return false;
            }
            at++;
            int first = takeNumber(digitsOfFirst);
            if (first == NONE) {
                return false;
            }
            int second = takeNumber(mostDigits(kind, 1));
            kinds[i] = kind;
            firsts[i] = first;
            seconds[i] = second;
            return second != NONE;
        }

        /** How many digits a number of a CLAUSE may have; 0: it has no such number, NONE: no such CLAUSE. */
        private static int mostDigits(int kind, int number) {
            switch (kind) {
                case 'n': return number == 0 ? 1 : 0;
                case 'b': return number == 0 ? 1 : 0;
                case 'r': return number == 0 ? 5 : 0;
                case 'l': return number == 0 ? 1 : 3;
                case 'w': return 1;
                case 's': return 0;
                case 'k': return 0;
                case 'u': return 0;
                default: return NONE;
            }
        }

        /** 0, if none is wanted; NONE, if one is and none is there. */
        private int takeNumber(int most) {
            int value = 0;
            for (int i = 0; i < most; i++) {
                int digit = signHere() - '0';
                if (digit < 0 || digit > 9) {
                    return i == 0 ? NONE : value;
                }
                value = value * 10 + digit;
                at++;
            }
            return value;
        }

        private int signHere() {
            return at >= 0 && at < size ? signs[at] : NONE;
        }
    }

    /** THE LINE, laid out once for all POINTS, since rounds and means ask for each of them. */
    private static final class Line {
        private final int[] to = new int[MOST_POINTS];
        private final boolean[] met = new boolean[MOST_POINTS];
        int points = 0;

        void lay(Rows rows) {
            points = 0;
            for (int i = 0; i < rows.n; i++) {
                int letter = rows.top[i];
                int start = rows.startIn(rows.bottom, letter);
                for (int j = 0; j < rows.lengths[letter] && points < MOST_POINTS; j++) {
                    to[points] = start + j;
                    points++;
                }
            }
        }

        int periodOf(int point) {
            int here = to[point];
            int times = 1;
            for (; times < points && here != point; times++) {
                here = to[here];
            }
            return times;
        }

        int behind(int point, int times) {
            // Whole rounds lead nowhere: what is left of the times is enough.
            int period = periodOf(point);
            int left = period < 1 ? 0 : times % period;
            int here = point;
            for (int i = 0; i < left; i++) {
                here = to[here];
            }
            return here;
        }

        int rounds() {
            for (int i = 0; i < points; i++) {
                met[i] = false;
            }
            int lots = 0;
            for (int first = 0; first < points; first++) {
                if (!met[first]) {
                    lots++;
                    markRound(first);
                }
            }
            return lots;
        }

        private void markRound(int first) {
            int here = first;
            for (int i = 0; i < points && !met[here]; i++) {
                met[here] = true;
                here = to[here];
            }
        }

        int goingDown() {
            int many = 0;
            for (int i = 0; i < points; i++) {
                if (to[i] < i) {
                    many++;
                }
            }
            return many;
        }

        int wayTogether() {
            int sum = 0;
            for (int i = 0; i < points; i++) {
                sum += Math.abs(to[i] - i);
            }
            return sum;
        }
    }

    /** CODES and the STEPS of SHAPES between them; the CLASS explored last, nearest CODES first. */
    private static final class Shapes {
        private final Rows shape = new Rows();
        private final int[] codes = new int[MOST_CODES];
        private final int[] steps = new int[MOST_CODES];
        int found = 0;

        int follow(int code, int n, int kind) {
            shape.n = n;
            shape.layCode(code);
            if (shape.endsAlike()) {
                return NOT_SO;
            }
            shape.moveForStep(kind);
            return shape.codeNow();
        }

        void explore(int code, int n) {
            found = 0;
            note(code, 0);
            for (int i = 0; i < found && i < MOST_CODES; i++) {
                note(follow(codes[i], n, 0), steps[i] + 1);
                note(follow(codes[i], n, 1), steps[i] + 1);
            }
        }

        private void note(int code, int far) {
            if (code == NOT_SO || indexOf(code) != NONE || found >= MOST_CODES) {
                return;
            }
            codes[found] = code;
            steps[found] = far;
            found++;
        }

        private int indexOf(int code) {
            for (int i = 0; i < found; i++) {
                if (codes[i] == code) {
                    return i;
                }
            }
            return NONE;
        }

        int stepsTo(int code) {
            int index = indexOf(code);
            return index == NONE ? NOT_SO : steps[index];
        }

        int codeOfRank(int rank) {
            for (int i = 0; i < found; i++) {
                if (rankOf(codes[i]) == rank) {
                    return codes[i];
                }
            }
            return NOT_SO;
        }

        private int rankOf(int code) {
            int lesser = 0;
            for (int i = 0; i < found; i++) {
                if (codes[i] < code) {
                    lesser++;
                }
            }
            return lesser;
        }
    }

    /** Items of every sort are held as longs, cut to what the sort can hold when they are put. */
    private static final class Tape {
        int sort = EMPTY;
        int size = 0;
        final long[] items = new long[MOST_ITEMS];

        void become(int newSort, int newSize) {
            sort = newSort;
            size = Math.max(0, Math.min(newSize, MOST_ITEMS));
            Arrays.fill(items, 0L);
        }

        boolean hasPlace(int i) {
            return i >= 0 && i < size;
        }

        boolean hasRun(int i, int n) {
            // Written as a difference: i + n could wrap around.
            return i >= 0 && n >= 0 && i <= size - n;
        }

        void put(int i, long v) {
            if (!hasPlace(i)) {
                return;
            }
            switch (sort) {
                case BYTES: items[i] = (byte) v; break;
                case SHORTS: items[i] = (short) v; break;
                case INTS: items[i] = (int) v; break;
                case LONGS: items[i] = v; break;
                default: items[i] = v != 0 ? 1 : 0; break;
            }
        }
    }
}
