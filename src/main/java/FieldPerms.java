import java.util.NoSuchElementException;

/** Polynomials over a field of at most 64 points, held by their values, and what they do to its points. */
public final class FieldPerms {
    public static final int NONE = -1;

    private static final int POINTS_MOST = 64;
    private static final int POLYS_MOST = 6;
    private static final int BYTES_MOST = 300;
    private static final int ACTS_MOST = 8;
    private static final int DEPTH_MOST = 4;
    private static final int POWER_MOST = 9999;
    private static final int TIMES_MOST = 1000000000;
    private static final int DICKSON_MOST = 63;

    /** The tables belong to the field that {@link #now} tells; only text() lends them out to a draft. */
    private final Field field;
    private final State now;
    private final State draft;
    private final History history;
    private final Tape tape;
    private final Reader reader;
    private final Study study;
    private final int[] refused;
    private int faultPlace;

    public FieldPerms() {
        field = new Field();
        now = new State();
        draft = new State();
        history = new History();
        tape = new Tape();
        reader = new Reader(tape, field, draft);
        study = new Study(field);
        refused = new int[3];
        faultPlace = NONE;
    }

    public int feed(int a, int b, int c, int d, int e) {
        if (tape.held + 20 > BYTES_MOST) {
            return NONE;
        }
        tape.put(a);
        tape.put(b);
        tape.put(c);
        tape.put(d);
        tape.put(e);
        return tape.held;
    }

    public int text(int n) throws IllegalArgumentException {
        needNumber(n, 0, tape.held);
        tape.cut(n);
        boolean right = reader.read();
        tape.held = 0;
        faultPlace = reader.faultPlace;
        if (!right) {
            field.tune(now.prime, now.power);
            return reader.faultKind - 10;
        }
        history.keep(now);
        now.become(draft);
        return now.count;
    }

    public int fault() {
        return faultPlace;
    }

    public int value(int poly, int at, int v) throws NoSuchElementException {
        needPoly(poly);
        needPoint(at);
        needPoint(v);
        history.keep(now);
        int was = now.rows[poly][at];
        now.rows[poly][at] = v;
        return was;
    }

    public int after(int one, int other) throws NoSuchElementException, IllegalStateException {
        needPoly(one);
        needPoly(other);
        needRoom();
        history.keep(now);
        study.join(now.rows[one], now.rows[other], now.rows[now.count]);
        now.count++;
        return now.count - 1;
    }

    public int again(int poly, int n)
            throws NoSuchElementException, IllegalArgumentException, IllegalStateException {
        needPoly(poly);
        needNumber(n, 0, TIMES_MOST);
        needRoom();
        history.keep(now);
        study.repeat(now.rows[poly], n, now.rows[now.count]);
        now.count++;
        return now.count - 1;
    }

    public int back(int poly) throws NoSuchElementException, IllegalStateException {
        needPoly(poly);
        needRoom();
        needPermuting(poly);
        history.keep(now);
        study.invert(now.rows[poly], now.rows[now.count]);
        now.count++;
        return now.count - 1;
    }

    public int drop(int poly) throws NoSuchElementException {
        needPoly(poly);
        history.keep(now);
        now.remove(poly);
        return now.count;
    }

    public int undo() {
        State last = history.takeLast();
        if (last == null) {
            return NONE;
        }
        now.become(last);
        field.tune(now.prime, now.power);
        return history.size;
    }

    public int told(int what) throws IllegalArgumentException {
        needNumber(what, 0, 6);
        switch (what) {
            case 0:
                return field.size;
            case 1:
                return field.prime;
            case 2:
                return field.power;
            case 3:
                return field.modulus;
            case 4:
                return now.count;
            case 5:
                return tape.held;
            default:
                return history.size;
        }
    }

    public int points(int a, int b, int what) throws NoSuchElementException, IllegalArgumentException {
        needPoint(a);
        needPoint(b);
        needNumber(what, 0, 3);
        switch (what) {
            case 0:
                return field.sum(a, b);
            case 1:
                return field.difference(a, b);
            case 2:
                return field.product(a, b);
            default:
                return b == 0 ? NONE : field.product(a, field.inverses[b]);
        }
    }

    public int at(int poly, int point) throws NoSuchElementException {
        needPoly(poly);
        needPoint(point);
        return now.rows[poly][point];
    }

    public int coefficient(int poly, int power) throws NoSuchElementException, IllegalArgumentException {
        needPoly(poly);
        needNumber(power, 0, field.size - 1);
        return study.coefficientOf(now.rows[poly], power);
    }

    public int degree(int poly) throws NoSuchElementException {
        needPoly(poly);
        return study.degreeOf(now.rows[poly]);
    }

    public int taken(int poly, int value) throws NoSuchElementException {
        needPoly(poly);
        needPoint(value);
        return study.countOf(now.rows[poly], value);
    }

    public int image(int poly) throws NoSuchElementException {
        needPoly(poly);
        return study.imageOf(now.rows[poly]);
    }

    public int permutes(int poly) throws NoSuchElementException {
        needPoly(poly);
        return study.isPermuting(now.rows[poly]) ? 1 : 0;
    }

    public int powers(int poly) throws NoSuchElementException {
        needPoly(poly);
        return study.powersOf(now.rows[poly]);
    }

    public int cycles(int poly, int n)
            throws NoSuchElementException, IllegalArgumentException, IllegalStateException {
        needPoly(poly);
        needNumber(n, 0, POINTS_MOST);
        needPermuting(poly);
        study.findCycles(now.rows[poly]);
        return n == 0 ? study.cycleCount : study.cycleCounts[n];
    }

    public int order(int poly) throws NoSuchElementException, IllegalStateException {
        needPoly(poly);
        needPermuting(poly);
        study.findCycles(now.rows[poly]);
        return study.cycleMultiple();
    }

    public int even(int poly) throws NoSuchElementException, IllegalStateException {
        needPoly(poly);
        needPermuting(poly);
        study.findCycles(now.rows[poly]);
        return (field.size - study.cycleCount) % 2 == 0 ? 1 : 0;
    }

    public int orbit(int point) throws NoSuchElementException {
        needPoint(point);
        return Long.bitCount(study.reachFrom(point, now));
    }

    public int orbits() {
        long met = 0;
        int found = 0;
        for (int s = 0; s < field.size; s++) {
            if ((met >>> s & 1) == 0) {
                met |= study.reachFrom(s, now);
                found++;
            }
        }
        return found;
    }

    public int spread(int poly) throws NoSuchElementException {
        needPoly(poly);
        return study.spreadOf(now.rows[poly]);
    }

    public long monomials() {
        return study.permutingMonomials();
    }

    public long dicksons(int point) throws NoSuchElementException {
        needPoint(point);
        return study.permutingDicksons(point);
    }

    public int binomials(int n) throws IllegalArgumentException {
        needNumber(n, 2, 63);
        return study.permutingBinomials(n);
    }

    public long print() {
        long mixed = 0;
        for (int poly = 0; poly < now.count; poly++) {
            int[] row = now.rows[poly];
            for (int s = 0; s < field.size; s++) {
                mixed = 31 * mixed + row[s];
            }
        }
        return mixed;
    }

    public int status(int what) {
        return what < 0 || what >= refused.length ? NONE : refused[what];
    }

    private void needPoly(int poly) {
        if (poly < 0 || poly >= now.count) {
            refused[0]++;
            throw new NoSuchElementException("no such polynomial");
        }
    }

    private void needPoint(int point) {
        if (point < 0 || point >= field.size) {
            refused[0]++;
            throw new NoSuchElementException("no such point");
        }
    }

    private void needNumber(int n, int least, int most) {
        if (n < least || n > most) {
            refused[1]++;
            throw new IllegalArgumentException("a number that is none such");
        }
    }

    private void needRoom() {
        if (now.count >= POLYS_MOST) {
            refused[2]++;
            throw new IllegalStateException("there are six polynomials");
        }
    }

    private void needPermuting(int poly) {
        if (!study.isPermuting(now.rows[poly])) {
            refused[2]++;
            throw new IllegalStateException("it does not permute");
        }
    }

    /** Arithmetic of one field at a time, by tables that are filled anew when the field changes. */
    private static final class Field {
        int prime;
        int power;
        int size;
        int modulus;
        final int[] sums;
        final int[] products;
        final int[] negatives;
        final int[] inverses;
        /** Each point times y; what the product of longer digit rows is built from. */
        final int[] risen;

        Field() {
            sums = new int[POINTS_MOST * POINTS_MOST];
            products = new int[POINTS_MOST * POINTS_MOST];
            negatives = new int[POINTS_MOST];
            inverses = new int[POINTS_MOST];
            risen = new int[POINTS_MOST];
            tune(2, 1);
        }

        void tune(int p, int m) {
            if (p == prime && m == power) {
                return;
            }
            int q = sizeOf(p, m);
            if (p < 2 || m < 1 || q > POINTS_MOST) {
                return;
            }
            prime = p;
            power = m;
            size = q;
            modulus = leastModulus(q);
            fillSums(p, q);
            fillRisen(p, q);
            fillProducts(p, q);
        }

        /** P to the M, or some number above 64: M may be far too great to be reckoned through. */
        static int sizeOf(int p, int m) {
            int q = 1;
            for (int i = 0; i < m && q <= POINTS_MOST; i++) {
                q *= p;
            }
            return q;
        }

        /** Written out, for no more than nine fields of at most 64 points have M above 1; a test searches for them. */
        private static int leastModulus(int q) {
            switch (q) {
                case 4:
                case 8:
                case 16:
                case 64:
                    return 3;
                case 32:
                    return 5;
                case 9:
                case 49:
                    return 1;
                case 27:
                    return 7;
                case 25:
                    return 2;
                default:
                    return 0;
            }
        }

        /** A point less its last digit is a smaller number, so what it needs stands in the table already. */
        private void fillSums(int p, int q) {
            if (p < 2) {
                return;
            }
            for (int a = 0; a < q; a++) {
                negatives[a] = negatives[a / p] * p + (p - a % p) % p;
                for (int b = 0; b < q; b++) {
                    sums[a * POINTS_MOST + b] = sum(a / p, b / p) * p + (a % p + b % p) % p;
                }
            }
        }

        private void fillRisen(int p, int q) {
            if (p < 2) {
                return;
            }
            int top = q / p;
            for (int a = 0; a < q; a++) {
                risen[a] = a < top ? a * p : sum(risen[a - top], negatives[modulus]);
            }
        }

        private void fillProducts(int p, int q) {
            if (p < 2) {
                return;
            }
            for (int a = 0; a < q; a++) {
                products[a * POINTS_MOST] = 0;
                for (int b = 1; b < q; b++) {
                    int c = b < p ? sum(product(a, b - 1), a) : sum(risen[product(a, b / p)], product(a, b % p));
                    products[a * POINTS_MOST + b] = c;
                    if (c == 1) {
                        inverses[a] = b;
                    }
                }
            }
        }

        int sum(int a, int b) {
            return sums[a * POINTS_MOST + b];
        }

        int difference(int a, int b) {
            return sums[a * POINTS_MOST + negatives[b]];
        }

        int product(int a, int b) {
            return products[a * POINTS_MOST + b];
        }

        int raised(int a, int n) {
            int made = 1;
            int square = a;
            for (int left = n; left > 0; left >>= 1) {
                if ((left & 1) == 1) {
                    made = product(made, square);
                }
                square = product(square, square);
            }
            return made;
        }

        /**
         * Dickson's n-th by a at x, n below 2 to the 14. Going by the bits of n (the 2k-th is the square of the k-th
         * less twice a to the k, and so on) keeps the 9,999th as cheap as the tenth.
         */
        int dicksonAt(int n, int a, int x) {
            int low = sum(1, 1);
            int high = x;
            int scale = 1;
            for (int bit = 13; bit >= 0; bit--) {
                int middle = difference(product(low, high), product(scale, x));
                int square = product(scale, scale);
                if ((n >> bit & 1) == 0) {
                    low = difference(product(low, low), sum(scale, scale));
                    high = middle;
                    scale = square;
                } else {
                    int risenScale = product(scale, a);
                    low = middle;
                    high = difference(product(high, high), sum(risenScale, risenScale));
                    scale = product(square, a);
                }
            }
            return low;
        }
    }

    /** A field and the polynomials over it: all that an act changes. */
    private static final class State {
        int prime;
        int power;
        int count;
        final int[][] rows;

        State() {
            prime = 2;
            power = 1;
            rows = new int[POLYS_MOST][POINTS_MOST];
        }

        void become(State other) {
            prime = other.prime;
            power = other.power;
            count = other.count;
            for (int i = 0; i < other.count; i++) {
                System.arraycopy(other.rows[i], 0, rows[i], 0, POINTS_MOST);
            }
        }

        void remove(int poly) {
            for (int i = poly + 1; i < count; i++) {
                System.arraycopy(rows[i], 0, rows[i - 1], 0, POINTS_MOST);
            }
            count--;
        }
    }

    /** What there was ahead of each of the latest acts; the oldest gives way when there is no room. */
    private static final class History {
        int size;
        private int next;
        private final State[] past;

        History() {
            past = new State[ACTS_MOST];
            for (int i = 0; i < ACTS_MOST; i++) {
                past[i] = new State();
            }
        }

        void keep(State state) {
            past[next].become(state);
            next = next + 1 < ACTS_MOST ? next + 1 : 0;
            size = size < ACTS_MOST ? size + 1 : ACTS_MOST;
        }

        /** Null if there is none. */
        State takeLast() {
            if (size == 0) {
                return null;
            }
            size--;
            next = next > 0 ? next - 1 : ACTS_MOST - 1;
            return past[next];
        }
    }

    /** The bytes that were fed, and the words, numbers and signs that they are cut into. */
    private static final class Tape {
        /** A sign's kind is its byte, all of which are above these. */
        static final int END = 0;
        static final int NUMBER = 1;
        static final int WORD_FIELD = 2;
        static final int WORD_POLY = 3;
        static final int WORD_X = 4;
        static final int WORD_F = 5;
        static final int WORD_DICKSON = 6;
        static final int OTHER = 7;
        /** Above all numbers that a text may hold, and far from an int's end. */
        private static final int NUMBER_MOST = 1000000;

        int held;
        /** The piece that is looked at: what it is, where it begins, and, if it is a number, which. */
        int kind;
        int place;
        int number;
        private final int[] bytes;
        private final int[] kinds;
        private final int[] places;
        private final int[] numbers;
        private int current;

        Tape() {
            bytes = new int[BYTES_MOST];
            kinds = new int[BYTES_MOST + 1];
            places = new int[BYTES_MOST + 1];
            numbers = new int[BYTES_MOST + 1];
        }

        void put(int four) {
            for (int shift = 24; shift >= 0 && held < BYTES_MOST; shift -= 8) {
                bytes[held] = four >>> shift & 255;
                held++;
            }
        }

        /** Cuts the first n bytes and goes to the first piece; behind the last one stands END, at n. */
        void cut(int n) {
            int found = 0;
            int spot = 0;
            for (int i = 0; i < BYTES_MOST && spot < n; i++) {
                if (bytes[spot] == ' ') {
                    spot++;
                } else {
                    places[found] = spot;
                    spot = cutOne(found, spot, n);
                    found++;
                }
            }
            kinds[found] = END;
            places[found] = n;
            current = -1;
            kind = OTHER;
            step();
        }

        /** The place behind the piece that begins at spot. */
        private int cutOne(int piece, int spot, int n) {
            int first = bytes[spot];
            int end = spot + 1;
            if (isDigit(first)) {
                int read = first - '0';
                while (end < n && isDigit(bytes[end])) {
                    read = Math.min(10 * read + bytes[end] - '0', NUMBER_MOST);
                    end++;
                }
                kinds[piece] = NUMBER;
                numbers[piece] = read;
            } else if (isLetter(first)) {
                while (end < n && isLetter(bytes[end])) {
                    end++;
                }
                kinds[piece] = wordKind(spot, end);
            } else {
                kinds[piece] = isSign(first) ? first : OTHER;
            }
            return end;
        }

        private static boolean isDigit(int b) {
            return b >= '0' && b <= '9';
        }

        private static boolean isLetter(int b) {
            return b >= 'a' && b <= 'z';
        }

        private static boolean isSign(int b) {
            return b >= '(' && b <= '+' || b == '-' || b == ';' || b == '^';
        }

        private int wordKind(int from, int to) {
            if (spells("x", from, to)) {
                return WORD_X;
            }
            if (spells("f", from, to)) {
                return WORD_F;
            }
            if (spells("poly", from, to)) {
                return WORD_POLY;
            }
            if (spells("field", from, to)) {
                return WORD_FIELD;
            }
            return spells("dickson", from, to) ? WORD_DICKSON : OTHER;
        }

        private boolean spells(String word, int from, int to) {
            if (word.length() != to - from) {
                return false;
            }
            for (int i = 0; i < word.length(); i++) {
                if (word.charAt(i) != bytes[from + i]) {
                    return false;
                }
            }
            return true;
        }

        /** END is never left behind. */
        void step() {
            if (kind != END) {
                current++;
                kind = kinds[current];
                place = places[current];
                number = numbers[current];
            }
        }
    }

    /**
     * Tells a draft by the pieces of a tape. Each method that answers a boolean answers false behind the first fault;
     * as the pieces are looked at from the left, that is the one whose byte is least.
     */
    private static final class Reader {
        private static final int CANNOT_STAND = 1;
        private static final int NONE_SUCH = 2;
        private static final int SEVENTH = 3;
        private static final int TOO_DEEP = 4;

        int faultKind;
        int faultPlace;
        private final Tape tape;
        private final Field field;
        private final State draft;
        /** Values of the sum, the product and the power that are being read, a row for each depth of brackets. */
        private final int[][] sums;
        private final int[][] products;
        private final int[][] units;

        Reader(Tape tape, Field field, State draft) {
            this.tape = tape;
            this.field = field;
            this.draft = draft;
            sums = new int[DEPTH_MOST + 1][POINTS_MOST];
            products = new int[DEPTH_MOST + 1][POINTS_MOST];
            units = new int[DEPTH_MOST + 1][POINTS_MOST];
        }

        boolean read() {
            faultKind = 0;
            faultPlace = NONE;
            draft.count = 0;
            if (!readField()) {
                return false;
            }
            for (int i = 0; i <= POLYS_MOST && tape.kind != Tape.END; i++) {
                if (tape.kind != Tape.WORD_POLY) {
                    return refuse(CANNOT_STAND);
                }
                if (draft.count >= POLYS_MOST) {
                    return refuse(SEVENTH);
                }
                tape.step();
                if (!readSum(0) || !takeSign(';')) {
                    return false;
                }
                System.arraycopy(sums[0], 0, draft.rows[draft.count], 0, POINTS_MOST);
                draft.count++;
            }
            return true;
        }

        private boolean refuse(int kind) {
            faultKind = kind;
            faultPlace = tape.place;
            return false;
        }

        private boolean takeSign(int sign) {
            if (tape.kind != sign) {
                return refuse(CANNOT_STAND);
            }
            tape.step();
            return true;
        }

        /** Looks at a number without stepping behind it: a caller still needs it. */
        private boolean seeNumber(int most) {
            if (tape.kind != Tape.NUMBER) {
                return refuse(CANNOT_STAND);
            }
            return tape.number <= most || refuse(NONE_SUCH);
        }

        private boolean readField() {
            if (tape.kind != Tape.WORD_FIELD) {
                return refuse(CANNOT_STAND);
            }
            tape.step();
            if (!seeNumber(POINTS_MOST)) {
                return false;
            }
            int p = tape.number;
            if (!isPrime(p)) {
                return refuse(NONE_SUCH);
            }
            tape.step();
            if (!seeNumber(POINTS_MOST)) {
                return false;
            }
            int m = tape.number;
            if (m == 0 || Field.sizeOf(p, m) > POINTS_MOST) {
                return refuse(NONE_SUCH);
            }
            tape.step();
            draft.prime = p;
            draft.power = m;
            field.tune(p, m);
            return takeSign(';');
        }

        private static boolean isPrime(int n) {
            for (int d = 2; d < n; d++) {
                if (n % d == 0) {
                    return false;
                }
            }
            return n >= 2;
        }

        private boolean readSum(int depth) {
            if (!readProduct(depth)) {
                return false;
            }
            int[] sum = sums[depth];
            int[] product = products[depth];
            System.arraycopy(product, 0, sum, 0, POINTS_MOST);
            for (int i = 0; i < BYTES_MOST; i++) {
                int sign = tape.kind;
                if (sign != '+' && sign != '-') {
                    return true;
                }
                tape.step();
                if (!readProduct(depth)) {
                    return false;
                }
                for (int s = 0; s < field.size; s++) {
                    sum[s] = sign == '+' ? field.sum(sum[s], product[s]) : field.difference(sum[s], product[s]);
                }
            }
            return true;
        }

        private boolean readProduct(int depth) {
            if (!readUnit(depth)) {
                return false;
            }
            int[] product = products[depth];
            int[] unit = units[depth];
            System.arraycopy(unit, 0, product, 0, POINTS_MOST);
            for (int i = 0; i < BYTES_MOST && tape.kind == '*'; i++) {
                tape.step();
                if (!readUnit(depth)) {
                    return false;
                }
                for (int s = 0; s < field.size; s++) {
                    product[s] = field.product(product[s], unit[s]);
                }
            }
            return true;
        }

        private boolean readUnit(int depth) {
            boolean right;
            switch (tape.kind) {
                case Tape.NUMBER:
                    right = readPoint(units[depth]);
                    break;
                case Tape.WORD_X:
                    right = readX(units[depth]);
                    break;
                case '(':
                    right = readBracket(depth);
                    break;
                case Tape.WORD_F:
                    right = readInner(depth);
                    break;
                case Tape.WORD_DICKSON:
                    right = readDickson(units[depth]);
                    break;
                default:
                    right = refuse(CANNOT_STAND);
            }
            return right && (tape.kind != '^' || readPower(units[depth]));
        }

        private boolean readPoint(int[] unit) {
            if (!seeNumber(field.size - 1)) {
                return false;
            }
            for (int s = 0; s < field.size; s++) {
                unit[s] = tape.number;
            }
            tape.step();
            return true;
        }

        private boolean readX(int[] unit) {
            for (int s = 0; s < field.size; s++) {
                unit[s] = s;
            }
            tape.step();
            return true;
        }

        private boolean readBracket(int depth) {
            if (tape.kind != '(') {
                return refuse(CANNOT_STAND);
            }
            if (depth >= DEPTH_MOST) {
                return refuse(TOO_DEEP);
            }
            tape.step();
            if (!readSum(depth + 1)) {
                return false;
            }
            if (tape.kind != ')') {
                return refuse(CANNOT_STAND);
            }
            tape.step();
            System.arraycopy(sums[depth + 1], 0, units[depth], 0, POINTS_MOST);
            return true;
        }

        private boolean readInner(int depth) {
            tape.step();
            if (!seeNumber(draft.count - 1)) {
                return false;
            }
            int[] outer = draft.rows[tape.number];
            tape.step();
            if (!readBracket(depth)) {
                return false;
            }
            int[] unit = units[depth];
            for (int s = 0; s < field.size; s++) {
                unit[s] = outer[unit[s]];
            }
            return true;
        }

        private boolean readDickson(int[] unit) {
            tape.step();
            if (!seeNumber(POWER_MOST)) {
                return false;
            }
            int n = tape.number;
            tape.step();
            if (!seeNumber(field.size - 1)) {
                return false;
            }
            for (int s = 0; s < field.size; s++) {
                unit[s] = field.dicksonAt(n, tape.number, s);
            }
            tape.step();
            return true;
        }

        private boolean readPower(int[] unit) {
            tape.step();
            if (!seeNumber(POWER_MOST)) {
                return false;
            }
            for (int s = 0; s < field.size; s++) {
                unit[s] = field.raised(unit[s], tape.number);
            }
            tape.step();
            return true;
        }
    }

    /** Questions about rows of values. Sets of points are the bits of a long, for there are at most 64. */
    private static final class Study {
        int cycleCount;
        final int[] cycleCounts;
        private final Field field;
        private final int[] counts;
        private final int[] first;
        private final int[] second;

        Study(Field field) {
            this.field = field;
            cycleCounts = new int[POINTS_MOST + 1];
            counts = new int[POINTS_MOST];
            first = new int[POINTS_MOST];
            second = new int[POINTS_MOST];
        }

        void join(int[] outer, int[] inner, int[] made) {
            for (int s = 0; s < field.size; s++) {
                made[s] = outer[inner[s]];
            }
        }

        /** By squares: a thousand million times take thirty rounds. */
        void repeat(int[] row, int n, int[] made) {
            int[] square = first;
            int[] spare = second;
            for (int s = 0; s < field.size; s++) {
                made[s] = s;
                square[s] = row[s];
            }
            for (int left = n; left > 0; left >>= 1) {
                if ((left & 1) == 1) {
                    join(square, made, made);
                }
                join(square, square, spare);
                int[] squared = spare;
                spare = square;
                square = squared;
            }
        }

        void invert(int[] row, int[] made) {
            for (int s = 0; s < field.size; s++) {
                made[row[s]] = s;
            }
        }

        /** Of x to the k, k above 0: less the sum of each value times its point to the q less 1 less k. */
        int coefficientOf(int[] row, int k) {
            if (k == 0) {
                return row[0];
            }
            int sum = 0;
            for (int s = 0; s < field.size; s++) {
                sum = field.sum(sum, field.product(row[s], field.raised(s, field.size - 1 - k)));
            }
            return field.negatives[sum];
        }

        /** From the highest power down, so that each point's power grows by one product a step. */
        int degreeOf(int[] row) {
            int[] weights = first;
            for (int s = 0; s < field.size; s++) {
                weights[s] = 1;
            }
            for (int k = field.size - 1; k > 0; k--) {
                int sum = 0;
                for (int s = 0; s < field.size; s++) {
                    sum = field.sum(sum, field.product(row[s], weights[s]));
                    weights[s] = field.product(weights[s], s);
                }
                if (sum != 0) {
                    return k;
                }
            }
            return row[0] != 0 ? 0 : NONE;
        }

        int countOf(int[] row, int value) {
            int found = 0;
            for (int s = 0; s < field.size; s++) {
                if (row[s] == value) {
                    found++;
                }
            }
            return found;
        }

        int imageOf(int[] row) {
            long met = 0;
            for (int s = 0; s < field.size; s++) {
                met |= 1L << row[s];
            }
            return Long.bitCount(met);
        }

        boolean isPermuting(int[] row) {
            return imageOf(row) == field.size;
        }

        /** A row's degree is q less 1 just if the sum of its values is not 0. */
        int powersOf(int[] row) {
            if (countOf(row, 0) != 1) {
                return 0;
            }
            int[] raised = first;
            for (int s = 0; s < field.size; s++) {
                raised[s] = 1;
            }
            int rest = 0;
            for (int t = 1; t <= field.size - 2; t++) {
                int sum = 0;
                for (int s = 0; s < field.size; s++) {
                    raised[s] = field.product(raised[s], row[s]);
                    sum = field.sum(sum, raised[s]);
                }
                rest = rest + 1 < field.prime ? rest + 1 : 0;
                if (sum != 0 && rest != 0) {
                    return t;
                }
            }
            return NONE;
        }

        void findCycles(int[] row) {
            for (int n = 0; n <= POINTS_MOST; n++) {
                cycleCounts[n] = 0;
            }
            cycleCount = 0;
            long met = 0;
            for (int s = 0; s < field.size; s++) {
                int length = 0;
                int point = s;
                while (length < field.size && (met >>> point & 1) == 0) {
                    met |= 1L << point;
                    point = row[point];
                    length++;
                }
                if (length > 0) {
                    cycleCounts[length]++;
                    cycleCount++;
                }
            }
        }

        /** The least common multiple of the lengths; with 64 points in all it stays far inside an int. */
        int cycleMultiple() {
            int multiple = 1;
            for (int n = 2; n <= POINTS_MOST; n++) {
                int common = cycleCounts[n] > 0 ? commonDivisor(multiple, n) : 0;
                if (common > 0) {
                    multiple = multiple / common * n;
                }
            }
            return multiple;
        }

        /** Of a number and n above 0; never below 1. */
        private static int commonDivisor(int number, int n) {
            for (int d = n; d > 1; d--) {
                if (n % d == 0 && number % d == 0) {
                    return d;
                }
            }
            return 1;
        }

        /** Ways back need no search of their own: what permutes comes round again. */
        long reachFrom(int point, State state) {
            long reached = 1L << point;
            for (int round = 0; round < field.size; round++) {
                long before = reached;
                for (int poly = 0; poly < state.count; poly++) {
                    if (isPermuting(state.rows[poly])) {
                        reached |= imageOfSet(state.rows[poly], reached);
                    }
                }
                if (reached == before) {
                    return reached;
                }
            }
            return reached;
        }

        private long imageOfSet(int[] row, long set) {
            long image = 0;
            for (int s = 0; s < field.size; s++) {
                if ((set >>> s & 1) == 1) {
                    image |= 1L << row[s];
                }
            }
            return image;
        }

        int spreadOf(int[] row) {
            int greatest = 0;
            for (int a = 1; a < field.size; a++) {
                for (int b = 0; b < field.size; b++) {
                    counts[b] = 0;
                }
                for (int s = 0; s < field.size; s++) {
                    int b = field.difference(row[field.sum(s, a)], row[s]);
                    counts[b]++;
                    greatest = Math.max(greatest, counts[b]);
                }
            }
            return greatest;
        }

        long permutingMonomials() {
            int[] row = first;
            for (int s = 0; s < field.size; s++) {
                row[s] = 1;
            }
            long found = 0;
            for (int n = 1; n < field.size; n++) {
                for (int s = 0; s < field.size; s++) {
                    row[s] = field.product(row[s], s);
                }
                if (isPermuting(row)) {
                    found |= 1L << n;
                }
            }
            return found;
        }

        long permutingDicksons(int a) {
            int[] ahead = first;
            int[] row = second;
            for (int s = 0; s < field.size; s++) {
                ahead[s] = field.sum(1, 1);
                row[s] = s;
            }
            long found = 0;
            for (int n = 1; n <= DICKSON_MOST; n++) {
                if (isPermuting(row)) {
                    found |= 1L << n;
                }
                for (int s = 0; s < field.size; s++) {
                    ahead[s] = field.difference(field.product(s, row[s]), field.product(a, ahead[s]));
                }
                int[] next = ahead;
                ahead = row;
                row = next;
            }
            return found;
        }

        int permutingBinomials(int n) {
            int[] raised = first;
            int[] row = second;
            for (int s = 0; s < field.size; s++) {
                raised[s] = field.raised(s, n);
            }
            int found = 0;
            for (int a = 0; a < field.size; a++) {
                for (int s = 0; s < field.size; s++) {
                    row[s] = field.sum(raised[s], field.product(a, s));
                }
                if (isPermuting(row)) {
                    found++;
                }
            }
            return found;
        }
    }
}
