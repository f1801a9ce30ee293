import java.math.BigInteger;
import java.util.ArrayDeque;
import java.util.ArrayList;
import java.util.Arrays;
import java.util.Deque;
import java.util.HashMap;
import java.util.List;
import java.util.Map;
import java.util.NoSuchElementException;

/**
 * The document once more, told in another way than the class tells it: polynomials are rows of coefficients that are
 * multiplied out and brought down, the modulus is searched for, texts are read byte by byte.
 */
final class Model {
    private static final Map<Integer, Base> BASES = new HashMap<>();

    /** A field, with the polynomials that are 1 at one point and 0 at all others. */
    static final class Base {
        final int p;
        final int m;
        final int q;
        final int modulus;
        final int[][] times;
        final int[][] plus;
        final int[] minus;
        final int[][] peaks;

        Base(int p, int m) {
            this.p = p;
            this.m = m;
            int size = 1;
            for (int i = 0; i < m; i++) {
                size *= p;
            }
            q = size;
            modulus = leastModulus(p, m);
            times = new int[q][q];
            plus = new int[q][q];
            minus = new int[q];
            for (int a = 0; a < q; a++) {
                for (int b = 0; b < q; b++) {
                    plus[a][b] = added(a, b);
                    times[a][b] = multiplied(a, b);
                    if (plus[a][b] == 0) {
                        minus[a] = b;
                    }
                }
            }
            peaks = new int[q][];
            for (int c = 0; c < q; c++) {
                int[] factor = new int[q];
                factor[0] = minus[c];
                factor[1] = 1;
                int[] one = new int[q];
                one[0] = 1;
                peaks[c] = subtract(one, raise(factor, q - 1));
            }
        }

        private int added(int a, int b) {
            int[] x = digits(a, p, m);
            int[] y = digits(b, p, m);
            for (int i = 0; i < m; i++) {
                x[i] = (x[i] + y[i]) % p;
            }
            return number(x, p);
        }

        private int multiplied(int a, int b) {
            int[] product = multiplyDigits(digits(a, p, m), digits(b, p, m), p);
            int[] d = digits(modulus, p, m);
            for (int i = product.length - 1; i >= m; i--) {
                for (int j = 0; j < m; j++) {
                    product[i - m + j] = Math.floorMod(product[i - m + j] - product[i] * d[j], p);
                }
                product[i] = 0;
            }
            return number(product, p);
        }

        int[] add(int[] f, int[] g) {
            int[] h = new int[q];
            for (int k = 0; k < q; k++) {
                h[k] = plus[f[k]][g[k]];
            }
            return h;
        }

        int[] subtract(int[] f, int[] g) {
            return add(f, scale(minus[1], g));
        }

        int[] scale(int a, int[] f) {
            int[] h = new int[q];
            for (int k = 0; k < q; k++) {
                h[k] = times[a][f[k]];
            }
            return h;
        }

        int[] multiply(int[] f, int[] g) {
            int[] h = new int[q];
            for (int i = 0; i < q; i++) {
                for (int j = 0; j < q && f[i] != 0; j++) {
                    int k = i + j < q ? i + j : i + j - (q - 1);
                    h[k] = plus[h[k]][times[f[i]][g[j]]];
                }
            }
            return h;
        }

        int[] raise(int[] f, int n) {
            int[] h = new int[q];
            h[0] = 1;
            for (int bit = 30; bit >= 0; bit--) {
                h = multiply(h, h);
                if ((n >> bit & 1) == 1) {
                    h = multiply(h, f);
                }
            }
            return h;
        }

        int[] put(int[] f, int[] g) {
            int[] h = new int[q];
            for (int k = q - 1; k >= 0; k--) {
                h = multiply(h, g);
                h[0] = plus[h[0]][f[k]];
            }
            return h;
        }

        int[] dickson(int n, int a) {
            int[] ahead = new int[q];
            ahead[0] = plus[1][1];
            int[] now = x();
            for (int i = 0; i < n; i++) {
                int[] next = subtract(multiply(x(), now), scale(a, ahead));
                ahead = now;
                now = next;
            }
            return ahead;
        }

        int[] x() {
            int[] h = new int[q];
            h[1] = 1;
            return h;
        }

        int at(int[] f, int s) {
            int v = 0;
            for (int k = q - 1; k >= 0; k--) {
                v = plus[times[v][s]][f[k]];
            }
            return v;
        }

        int[] values(int[] f) {
            int[] row = new int[q];
            for (int s = 0; s < q; s++) {
                row[s] = at(f, s);
            }
            return row;
        }

        int[] through(int[] row) {
            int[] f = new int[q];
            for (int s = 0; s < q; s++) {
                f = add(f, scale(row[s], peaks[s]));
            }
            return f;
        }

        int degree(int[] f) {
            int k = q - 1;
            while (k >= 0 && f[k] == 0) {
                k--;
            }
            return k;
        }

        boolean permutes(int[] f) {
            return Arrays.stream(values(f)).distinct().count() == q;
        }
    }

    static Base base(int p, int m) {
        return BASES.computeIfAbsent(p * 100 + m, k -> new Base(p, m));
    }

    /** All fields that there are: P, M, q. */
    static int[][] fields() {
        List<int[]> all = new ArrayList<>();
        for (int p = 2; p <= 64; p++) {
            boolean prime = BigInteger.valueOf(p).isProbablePrime(50);
            for (int m = 1, q = p; prime && q <= 64; m++, q *= p) {
                all.add(new int[] {p, m, q});
            }
        }
        return all.toArray(new int[0][]);
    }

    static int[] digits(int n, int p, int length) {
        int[] d = new int[length];
        for (int i = 0; i < length; i++) {
            d[i] = n % p;
            n /= p;
        }
        return d;
    }

    static int number(int[] d, int p) {
        int n = 0;
        for (int i = d.length - 1; i >= 0; i--) {
            n = n * p + d[i];
        }
        return n;
    }

    static int[] multiplyDigits(int[] a, int[] b, int p) {
        int[] c = new int[a.length + b.length - 1];
        for (int i = 0; i < a.length; i++) {
            for (int j = 0; j < b.length; j++) {
                c[i + j] = (c[i + j] + a[i] * b[j]) % p;
            }
        }
        return c;
    }

    /** Crosses out all products of two sums of lesser degrees; the highest digits multiply to 1 if both are 1. */
    static int leastModulus(int p, int m) {
        int q = 1;
        for (int i = 0; i < m; i++) {
            q *= p;
        }
        boolean[] product = new boolean[q];
        for (int low = 1, lowSize = p; low < m; low++, lowSize *= p) {
            int highSize = q / lowSize;
            for (int a = 0; a < lowSize; a++) {
                for (int b = 0; b < highSize; b++) {
                    int[] c = multiplyDigits(digits(lowSize + a, p, low + 1), digits(highSize + b, p, m - low + 1), p);
                    product[number(c, p) - q] = true;
                }
            }
        }
        int least = 0;
        while (product[least]) {
            least++;
        }
        return least;
    }

    private static final class Fault extends RuntimeException {
        private static final long serialVersionUID = 1;
        final int kind;
        final int place;

        Fault(int kind, int place) {
            this.kind = kind;
            this.place = place;
        }
    }

    /** Reads a text byte by byte; what it says is not wanted of a fault is thrown. */
    private static final class Parser {
        final String text;
        int i = 0;
        Base base = null;
        final List<int[]> polys = new ArrayList<>();

        Parser(String text) {
            this.text = text;
        }

        void blanks() {
            while (i < text.length() && text.charAt(i) == ' ') {
                i++;
            }
        }

        boolean ahead(char c) {
            blanks();
            return i < text.length() && text.charAt(i) == c;
        }

        void sign(char c) {
            if (!ahead(c)) {
                throw new Fault(1, i);
            }
            i++;
        }

        /** All small letters that stand here, without going behind them. */
        String word() {
            blanks();
            int j = i;
            while (j < text.length() && text.charAt(j) >= 'a' && text.charAt(j) <= 'z') {
                j++;
            }
            return text.substring(i, j);
        }

        boolean digitAhead() {
            blanks();
            return i < text.length() && "0123456789".indexOf(text.charAt(i)) >= 0;
        }

        int number(int least, int most) {
            if (!digitAhead()) {
                throw new Fault(1, i);
            }
            int from = i;
            while (i < text.length() && "0123456789".indexOf(text.charAt(i)) >= 0) {
                i++;
            }
            BigInteger n = new BigInteger(text.substring(from, i));
            if (n.compareTo(BigInteger.valueOf(least)) < 0
                    || n.compareTo(BigInteger.valueOf(most)) > 0) {
                throw new Fault(2, from);
            }
            return n.intValueExact();
        }

        void all() {
            if (!word().equals("field")) {
                throw new Fault(1, i);
            }
            i += 5;
            blanks();
            int place = i;
            int p = number(2, 64);
            if (!BigInteger.valueOf(p).isProbablePrime(50)) {
                throw new Fault(2, place);
            }
            int most = 0;
            for (int q = p; q <= 64; q *= p) {
                most++;
            }
            base = base(p, number(1, most));
            sign(';');
            blanks();
            while (i < text.length()) {
                if (!word().equals("poly")) {
                    throw new Fault(1, i);
                }
                if (polys.size() == 6) {
                    throw new Fault(3, i);
                }
                i += 4;
                int[] f = sum(0);
                sign(';');
                polys.add(f);
                blanks();
            }
        }

        int[] sum(int open) {
            int[] f = product(open);
            while (ahead('+') || ahead('-')) {
                boolean adds = text.charAt(i) == '+';
                i++;
                int[] g = product(open);
                f = adds ? base.add(f, g) : base.subtract(f, g);
            }
            return f;
        }

        int[] product(int open) {
            int[] f = unit(open);
            while (ahead('*')) {
                i++;
                f = base.multiply(f, unit(open));
            }
            return f;
        }

        int[] unit(int open) {
            int[] f = first(open);
            if (ahead('^')) {
                i++;
                f = base.raise(f, number(0, 9999));
            }
            return f;
        }

        int[] first(int open) {
            String word = word();
            if (digitAhead()) {
                return base.scale(number(0, base.q - 1), base.raise(base.x(), 0));
            }
            if (ahead('(')) {
                return bracket(open);
            }
            if (word.equals("x")) {
                i++;
                return base.x();
            }
            if (word.equals("f")) {
                i++;
                int[] f = polys.get(number(0, polys.size() - 1));
                return base.put(f, bracket(open));
            }
            if (word.equals("dickson")) {
                i += 7;
                int n = number(0, 9999);
                return base.dickson(n, number(0, base.q - 1));
            }
            throw new Fault(1, i);
        }

        int[] bracket(int open) {
            if (!ahead('(')) {
                throw new Fault(1, i);
            }
            if (open == 4) {
                throw new Fault(4, i);
            }
            i++;
            int[] f = sum(open + 1);
            sign(')');
            return f;
        }
    }

    private static final class Past {
        final Base base;
        final List<int[]> polys;

        Past(Base base, List<int[]> polys) {
            this.base = base;
            this.polys = polys;
        }
    }

    private Base base = base(2, 1);
    private List<int[]> polys = new ArrayList<>();
    private final StringBuilder tape = new StringBuilder();
    private final Deque<Past> past = new ArrayDeque<>();
    private int fault = -1;
    private final int[] refused = new int[3];

    private void act() {
        past.addLast(new Past(base, new ArrayList<>(polys)));
        if (past.size() > 8) {
            past.removeFirst();
        }
    }

    private void poly(int f) {
        if (f < 0 || f >= polys.size()) {
            refused[0]++;
            throw new NoSuchElementException();
        }
    }

    private void point(int s) {
        if (s < 0 || s >= base.q) {
            refused[0]++;
            throw new NoSuchElementException();
        }
    }

    private void number(boolean is) {
        if (!is) {
            refused[1]++;
            throw new IllegalArgumentException();
        }
    }

    private void state(boolean is) {
        if (!is) {
            refused[2]++;
            throw new IllegalStateException();
        }
    }

    int feed(int... numbers) {
        if (tape.length() > 280) {
            return -1;
        }
        for (int n : numbers) {
            for (int i = 0; i < 4; i++) {
                tape.append((char) ((n >>> 8 * (3 - i)) & 0xff));
            }
        }
        return tape.length();
    }

    int text(int n) {
        number(n >= 0 && n <= tape.length());
        Parser parser = new Parser(tape.substring(0, n));
        tape.setLength(0);
        try {
            parser.all();
        } catch (Fault f) {
            fault = f.place;
            return f.kind - 10;
        }
        fault = -1;
        act();
        base = parser.base;
        polys = parser.polys;
        return polys.size();
    }

    int fault() {
        return fault;
    }

    int value(int f, int at, int v) {
        poly(f);
        point(at);
        point(v);
        act();
        int[] row = base.values(polys.get(f));
        int was = row[at];
        row[at] = v;
        polys.set(f, base.through(row));
        return was;
    }

    private int added(int[] f) {
        act();
        polys.add(f);
        return polys.size() - 1;
    }

    int after(int one, int other) {
        poly(one);
        poly(other);
        state(polys.size() < 6);
        return added(base.put(polys.get(one), polys.get(other)));
    }

    int again(int f, int n) {
        poly(f);
        number(n >= 0 && n <= 1000000000);
        state(polys.size() < 6);
        int[] row = base.values(polys.get(f));
        int[] made = new int[base.q];
        for (int s = 0; s < base.q; s++) {
            List<Integer> way = new ArrayList<>();
            int now = s;
            while (!way.contains(now)) {
                way.add(now);
                now = row[now];
            }
            int tail = way.indexOf(now);
            int round = way.size() - tail;
            made[s] = way.get(n < way.size() ? n : tail + (n - tail) % round);
        }
        return added(base.through(made));
    }

    int back(int f) {
        poly(f);
        state(polys.size() < 6 && base.permutes(polys.get(f)));
        int[] row = base.values(polys.get(f));
        int[] made = new int[base.q];
        for (int s = 0; s < base.q; s++) {
            for (int t = 0; t < base.q; t++) {
                made[s] = row[t] == s ? t : made[s];
            }
        }
        return added(base.through(made));
    }

    int drop(int f) {
        poly(f);
        act();
        polys.remove(f);
        return polys.size();
    }

    int undo() {
        if (past.isEmpty()) {
            return -1;
        }
        Past last = past.removeLast();
        base = last.base;
        polys = last.polys;
        return past.size();
    }

    int told(int what) {
        number(what >= 0 && what <= 6);
        return new int[] {base.q, base.p, base.m, base.modulus, polys.size(), tape.length(), past.size()}[what];
    }

    int points(int a, int b, int what) {
        point(a);
        point(b);
        number(what >= 0 && what <= 3);
        if (what == 0) {
            return base.plus[a][b];
        }
        for (int c = 0; c < base.q; c++) {
            if (what == 1 && base.plus[b][c] == a || what == 2 && base.times[a][b] == c
                    || what == 3 && b != 0 && base.times[b][c] == a) {
                return c;
            }
        }
        return -1;
    }

    int at(int f, int s) {
        poly(f);
        point(s);
        return base.at(polys.get(f), s);
    }

    int coefficient(int f, int k) {
        poly(f);
        number(k >= 0 && k < base.q);
        return polys.get(f)[k];
    }

    int degree(int f) {
        poly(f);
        return base.degree(polys.get(f));
    }

    int taken(int f, int v) {
        poly(f);
        point(v);
        return (int) Arrays.stream(base.values(polys.get(f))).filter(w -> w == v).count();
    }

    int image(int f) {
        poly(f);
        return (int) Arrays.stream(base.values(polys.get(f))).distinct().count();
    }

    int permutes(int f) {
        poly(f);
        return base.permutes(polys.get(f)) ? 1 : 0;
    }

    int powers(int f) {
        if (taken(f, 0) != 1) {
            return 0;
        }
        int[] power = base.raise(base.x(), 0);
        for (int t = 1; t <= base.q - 2; t++) {
            power = base.multiply(power, polys.get(f));
            if (t % base.p != 0 && base.degree(power) == base.q - 1) {
                return t;
            }
        }
        return -1;
    }

    /** The length of the round of each point; none that permutes is wanted of another one. */
    private int[] rounds(int f) {
        state(base.permutes(polys.get(f)));
        int[] row = base.values(polys.get(f));
        int[] lengths = new int[base.q];
        for (int s = 0; s < base.q; s++) {
            int now = row[s];
            lengths[s] = 1;
            while (now != s) {
                now = row[now];
                lengths[s]++;
            }
        }
        return lengths;
    }

    int cycles(int f, int n) {
        poly(f);
        number(n >= 0 && n <= 64);
        int[] met = new int[65];
        for (int length : rounds(f)) {
            met[length]++;
        }
        int all = 0;
        for (int length = 1; length <= 64; length++) {
            all += n == 0 || n == length ? met[length] / length : 0;
        }
        return all;
    }

    int order(int f) {
        poly(f);
        int[] lengths = rounds(f);
        int n = 1;
        for (int length : lengths) {
            int step = n;
            while (n % length != 0) {
                n += step;
            }
        }
        return n;
    }

    /** By pairs that stand the wrong way round. */
    int even(int f) {
        poly(f);
        state(base.permutes(polys.get(f)));
        int[] row = base.values(polys.get(f));
        int pairs = 0;
        for (int s = 0; s < base.q; s++) {
            for (int t = 0; t < s; t++) {
                pairs += row[t] > row[s] ? 1 : 0;
            }
        }
        return 1 - pairs % 2;
    }

    /** For each point the least one of its orbit. */
    private int[] leaders() {
        int[] leader = new int[base.q];
        for (int s = 0; s < base.q; s++) {
            leader[s] = s;
        }
        for (int[] f : polys) {
            for (int s = 0; s < base.q && base.permutes(f); s++) {
                int one = leader[s];
                int other = leader[base.at(f, s)];
                for (int t = 0; t < base.q; t++) {
                    leader[t] = leader[t] == one || leader[t] == other ? Math.min(one, other) : leader[t];
                }
            }
        }
        return leader;
    }

    int orbit(int s) {
        point(s);
        int[] leader = leaders();
        return (int) Arrays.stream(leader).filter(l -> l == leader[s]).count();
    }

    int orbits() {
        return (int) Arrays.stream(leaders()).distinct().count();
    }

    int spread(int f) {
        poly(f);
        int[] row = base.values(polys.get(f));
        int most = 0;
        for (int a = 1; a < base.q; a++) {
            for (int b = 0; b < base.q; b++) {
                int found = 0;
                for (int s = 0; s < base.q; s++) {
                    found += row[base.plus[s][a]] == base.plus[b][row[s]] ? 1 : 0;
                }
                most = Math.max(most, found);
            }
        }
        return most;
    }

    long monomials() {
        long found = 0;
        for (int n = 1; n < base.q; n++) {
            found |= base.permutes(base.raise(base.x(), n)) ? 1L << n : 0;
        }
        return found;
    }

    long dicksons(int a) {
        point(a);
        long found = 0;
        for (int n = 1; n <= 63; n++) {
            found |= base.permutes(base.dickson(n, a)) ? 1L << n : 0;
        }
        return found;
    }

    int binomials(int n) {
        number(n >= 2 && n <= 63);
        int found = 0;
        for (int a = 0; a < base.q; a++) {
            found += base.permutes(base.add(base.raise(base.x(), n), base.scale(a, base.x()))) ? 1 : 0;
        }
        return found;
    }

    long print() {
        long all = 0;
        for (int[] f : polys) {
            for (int v : base.values(f)) {
                all = all * 31 + v;
            }
        }
        return all;
    }

    int status(int what) {
        return what >= 0 && what <= 2 ? refused[what] : -1;
    }
}
