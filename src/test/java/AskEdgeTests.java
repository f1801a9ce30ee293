import java.util.Arrays;
import java.util.NoSuchElementException;
import java.util.function.Supplier;

/** The edges of promises 11 to 30, and of the terms' part on what is asked, sentence by sentence. */
public final class AskEdgeTests {
    private static final Check CHECK = new Check();
    private static final Class<?> NO_SUCH = NoSuchElementException.class;
    private static final Class<?> ARGUMENT = IllegalArgumentException.class;
    private static final Class<?> STATE = IllegalStateException.class;
    private static final int LEAST = Integer.MIN_VALUE;
    private static final int GREATEST = Integer.MAX_VALUE;
    private static final Supplier<FieldPerms> NEW = FieldPerms::new;
    private static final Supplier<FieldPerms> THREE = AskEdgeTests::three;
    private static final Supplier<FieldPerms> SIX = AskEdgeTests::six;

    public static void main(String[] args) {
        toldAll();
        toldRefused();
        pointsByZero();
        pointsRefused();
        atEdges();
        coefficientPowers();
        coefficientRefused();
        degreeEdges();
        takenEdges();
        imageEdges();
        permutesEdges();
        powersNone();
        powersRoots();
        powersLeast();
        cyclesOfAll();
        cyclesRefused();
        orderEdges();
        evenEdges();
        notPermutingRefused();
        orbitItself();
        orbitOfAll();
        orbitRefused();
        orbitsEdges();
        spreadEdges();
        monomialsEdges();
        dicksonsEdges();
        binomialsEdges();
        binomialsRefused();
        printEdges();
        statusCounts();
        statusOthers();
        polynomialsThatThereAreNot();
        allRowsOfSmallFields();
        CHECK.hadSentences(11, 30);
        CHECK.end("AskEdgeTests");
    }

    /** Over 7 points; the second takes 6 to 0, so that it does not permute, the third has no root. */
    private static FieldPerms three() {
        FieldPerms x = Check.told("field 7 1;poly 3*x;poly x;poly 1;");
        x.value(1, 6, 0);
        x.feed(5, 4, 3, 2, 1);
        return x;
    }

    /** Six over 64 points. */
    private static FieldPerms six() {
        return Check.told("field 2 6;poly x;poly x+63;poly x^3;poly x^2;poly 63*x;poly 0;");
    }

    private static String head(int[] field) {
        return "field " + field[0] + " " + field[1] + ";";
    }

    /** One polynomial, by its values; a call for each. */
    private static FieldPerms byRow(int[] field, int... row) {
        FieldPerms x = Check.told(head(field) + "poly x;");
        for (int s = 0; s < row.length; s++) {
            x.value(0, s, row[s]);
        }
        return x;
    }

    /** Rounds of these lengths, one behind the other, over 64 points. */
    private static FieldPerms byRounds(int... lengths) {
        int[] row = new int[64];
        int from = 0;
        for (int length : lengths) {
            for (int i = 0; i < length; i++) {
                row[from + i] = from + (i + 1) % length;
            }
            from += length;
        }
        for (int s = from; s < 64; s++) {
            row[s] = s;
        }
        return byRow(new int[] {2, 6}, row);
    }

    private static void toldAll() {
        CHECK.sentence(11, "0 q, 1 P, 2 M, 3 the number of THE MODULUS (digits d), 4 POLYNOMIALS, 5 bytes of the TAPE,"
                + " 6 ACTS that can be taken back");
        told(new FieldPerms(), 2, 2, 1, 0, 0, 0, 0);
        told(six(), 64, 2, 6, 3, 6, 0, 1);
        told(three(), 7, 7, 1, 0, 3, 20, 2);
        FieldPerms x = Check.told("field 5 2;poly x;");
        for (int i = 1; i <= 15; i++) {
            x.feed(0, 0, 0, 0, 0);
        }
        for (int i = 1; i <= 7; i++) {
            x.value(0, 24, i);
        }
        told(x, 25, 5, 2, 2, 1, 300, 8);
        x.value(0, 24, 8);
        told(x, 25, 5, 2, 2, 1, 300, 8);
    }

    private static void told(FieldPerms x, int... want) {
        for (int what = 0; what < want.length; what++) {
            CHECK.same("told " + what, want[what], x.told(what));
        }
    }

    private static void toldRefused() {
        CHECK.sentence(11, "IllegalArgumentException: another what (so below: a number that is none such)");
        for (int bad : new int[] {-1, 7, LEAST, GREATEST}) {
            CHECK.refused("told(" + bad + ") of a new one", NEW, ARGUMENT, x -> x.told(bad));
            CHECK.refused("told(" + bad + ")", THREE, ARGUMENT, x -> x.told(bad));
        }
    }

    private static void pointsByZero() {
        CHECK.sentence(12, "3 the first by the second (NONE, if that is 0)");
        for (int[] field : Model.fields()) {
            Model.Base base = Model.base(field[0], field[1]);
            FieldPerms x = Check.told(head(field));
            int last = field[2] - 1;
            for (int a = 0; a <= last; a++) {
                CHECK.same(head(field) + a + " by 0", -1, x.points(a, 0, 3));
                CHECK.same(head(field) + a + " by 1", a, x.points(a, 1, 3));
                CHECK.same(head(field) + a + " by itself", a == 0 ? -1 : 1, x.points(a, a, 3));
                CHECK.same(head(field) + a + " by the last, and times it", a, base.times[x.points(a, last, 3)][last]);
            }
            for (int b = 1; b <= last; b++) {
                CHECK.same(head(field) + "0 by " + b, 0, x.points(0, b, 3));
                CHECK.same(head(field) + "1 by " + b + ", and times it", 1, base.times[x.points(1, b, 3)][b]);
            }
        }
    }

    private static void pointsRefused() {
        CHECK.sentence(12, "Of two POINTS: 0 their sum, 1 the first less the second, 2 their product");
        CHECK.same("the last what", 1, three().points(6, 6, 3));
        CHECK.same("the first what", 5, three().points(6, 6, 0));
        for (int bad : new int[] {-1, 4, LEAST, GREATEST}) {
            CHECK.refused("what " + bad, THREE, ARGUMENT, x -> x.points(6, 6, bad));
            CHECK.refused("what " + bad + " by 0", THREE, ARGUMENT, x -> x.points(0, 0, bad));
            CHECK.refused("no first, what " + bad, THREE, NO_SUCH, x -> x.points(7, 0, bad));
            CHECK.refused("no second, what " + bad, THREE, NO_SUCH, x -> x.points(0, 7, bad));
        }
        for (int bad : new int[] {-1, 7, 63, 64, LEAST, GREATEST}) {
            for (int what = 0; what <= 3; what++) {
                int which = what;
                CHECK.refused("first " + bad + ", " + what, THREE, NO_SUCH, x -> x.points(bad, 1, which));
                CHECK.refused("second " + bad + ", " + what, THREE, NO_SUCH, x -> x.points(1, bad, which));
            }
        }
        CHECK.refused("both", THREE, NO_SUCH, x -> x.points(7, -1, 0));
        CHECK.refused("64 of 64", SIX, NO_SUCH, x -> x.points(64, 0, 0));
        CHECK.refused("2 of 2", NEW, NO_SUCH, x -> x.points(0, 2, 0));
    }

    private static void atEdges() {
        CHECK.sentence(13, "VALUE at a POINT");
        for (int[] field : Model.fields()) {
            int last = field[2] - 1;
            FieldPerms x = Check.told(head(field) + "poly x;poly 0-x;");
            CHECK.same(head(field) + "at the first", 0, x.at(0, 0));
            CHECK.same(head(field) + "at the last", last, x.at(0, last));
            CHECK.same(head(field) + "less the last", x.points(0, last, 1), x.at(1, last));
            CHECK.refuses(head(field) + "ahead of the first", NO_SUCH, () -> x.at(0, -1));
            CHECK.refuses(head(field) + "behind the last", NO_SUCH, () -> x.at(0, last + 1));
        }
        pointRefused("at", (x, bad) -> x.at(0, bad));
    }

    private static void coefficientPowers() {
        CHECK.sentence(14, "COEFFICIENT of a power of x (0 to q less 1)");
        for (int[] field : Model.fields()) {
            int last = field[2] - 1;
            FieldPerms x = Check.told(head(field) + "poly " + last + "*x^" + last + "+1;");
            CHECK.same(head(field) + "the first", 1, x.coefficient(0, 0));
            CHECK.same(head(field) + "the last", last, x.coefficient(0, last));
            CHECK.refuses(head(field) + "ahead of the first", ARGUMENT, () -> x.coefficient(0, -1));
            CHECK.refuses(head(field) + "behind the last", ARGUMENT, () -> x.coefficient(0, last + 1));
        }
    }

    private static void coefficientRefused() {
        CHECK.sentence(14, "throws NoSuchElementException, IllegalArgumentException");
        for (int bad : new int[] {-1, 7, 63, 64, LEAST, GREATEST}) {
            CHECK.refused("power " + bad, THREE, ARGUMENT, x -> x.coefficient(0, bad));
            CHECK.refused("no polynomial, power " + bad, THREE, NO_SUCH, x -> x.coefficient(3, bad));
        }
        CHECK.refused("power 64 of 64", SIX, ARGUMENT, x -> x.coefficient(5, 64));
        CHECK.refused("none there yet", NEW, NO_SUCH, x -> x.coefficient(0, 2));
    }

    private static void degreeEdges() {
        CHECK.sentence(15, "DEGREE");
        FieldPerms x = Check.told("field 2 6;poly 0;poly 63;poly x^63;poly x^64;poly x^63+x^63;poly 63*x^62;");
        int[] want = {-1, 0, 63, 1, -1, 62};
        for (int f = 0; f < want.length; f++) {
            CHECK.same("f" + f, want[f], x.degree(f));
        }
        FieldPerms y = Check.told("field 2 1;poly 0;poly 1;poly x;poly x^9999+x;");
        int[] wantOfTwo = {-1, 0, 1, -1};
        for (int f = 0; f < wantOfTwo.length; f++) {
            CHECK.same("q 2, f" + f, wantOfTwo[f], y.degree(f));
        }
    }

    private static void takenEdges() {
        CHECK.sentence(16, "How many POINTS it takes to a VALUE");
        for (int[] field : Model.fields()) {
            int q = field[2];
            FieldPerms x = Check.told(head(field) + "poly " + (q - 1) + ";poly x;poly x^" + (q - 1) + ";");
            CHECK.same(head(field) + "all", q, x.taken(0, q - 1));
            CHECK.same(head(field) + "none", 0, x.taken(0, 0));
            CHECK.same(head(field) + "one", 1, x.taken(1, q - 1));
            CHECK.same(head(field) + "all but one", q - 1, x.taken(2, 1));
            CHECK.same(head(field) + "that one", 1, x.taken(2, 0));
        }
        pointRefused("taken", (x, bad) -> x.taken(0, bad));
    }

    private static void imageEdges() {
        CHECK.sentence(17, "IMAGE");
        CHECK.holds("in the terms", Document.says("Terms", "IMAGE: how many POINTS are VALUES."));
        for (int[] field : Model.fields()) {
            int q = field[2];
            int last = q - 1;
            FieldPerms x = Check.told(head(field) + "poly 0;poly " + last + ";poly x;poly x^" + last + ";poly x;");
            CHECK.same(head(field) + "0 alone", 1, x.image(0));
            CHECK.same(head(field) + "the last alone", 1, x.image(1));
            CHECK.same(head(field) + "all", q, x.image(2));
            CHECK.same(head(field) + "two", 2, x.image(3));
            x.value(4, last, 0);
            CHECK.same(head(field) + "all but the last", last, x.image(4));
            x.value(2, 0, last);
            CHECK.same(head(field) + "all but the first", last, x.image(2));
        }
    }

    private static void permutesEdges() {
        CHECK.sentence(18, "1 it PERMUTES");
        CHECK.holds("in the terms", Document.says("Terms", "A POLYNOMIAL PERMUTES, if all are."));
        for (int[] field : Model.fields()) {
            int q = field[2];
            FieldPerms x = Check.told(head(field) + "poly x;poly 0;poly " + (q - 1) + "-x;");
            CHECK.same(head(field) + "x", 1, x.permutes(0));
            CHECK.same(head(field) + "0", 0, x.permutes(1));
            CHECK.same(head(field) + "the last less x", 1, x.permutes(2));
            x.value(0, q - 1, 0);
            CHECK.same(head(field) + "one value short", 0, x.permutes(0));
            x.value(0, 0, q - 1);
            CHECK.same(head(field) + "two values changed", 1, x.permutes(0));
        }
    }

    private static void powersNone() {
        CHECK.sentence(19, "POWERS: NONE: it is so");
        CHECK.holds("in the terms", Document.says("Terms",
                "for t from 1 to q less 2 that are no multiples of P, none has DEGREE q less 1"));
        for (int[] field : Model.fields()) {
            int q = field[2];
            FieldPerms x = Check.told(head(field) + "poly x;poly x+" + (q - 1) + ";poly x^" + field[0] + ";");
            for (int f = 0; f < 3; f++) {
                CHECK.same(head(field) + "f" + f, -1, x.powers(f));
            }
        }
        // with q 2 there is no t, with q 3 just 1, with q 4 just 1 too, for 2 is a multiple of 2
        FieldPerms x = Check.told("field 2 1;poly x;poly x+1;");
        CHECK.same("q 2, x", -1, x.powers(0));
        CHECK.same("q 2, x+1", -1, x.powers(1));
        CHECK.same("q 3, x^2 at once", 1, Check.told("field 3 1;poly x^2;").powers(0));
        CHECK.same("q 4, x^3 at once", 1, Check.told("field 2 2;poly x^3;").powers(0));
    }

    private static void powersRoots() {
        CHECK.sentence(19, "0: it has not just one root");
        CHECK.holds("in the terms", Document.says("Terms", "it has just one root (a POINT at which it is POINT 0)"));
        for (int[] field : Model.fields()) {
            int q = field[2];
            FieldPerms x = Check.told(head(field) + "poly 0;poly 1;poly x;poly x;");
            CHECK.same(head(field) + "all are roots", 0, x.powers(0));
            CHECK.same(head(field) + "none is", 0, x.powers(1));
            x.value(2, q - 1, 0);
            CHECK.same(head(field) + "two are", 0, x.powers(2));
            x.value(3, 0, 1);
            CHECK.same(head(field) + "no longer one", 0, x.powers(3));
            x.value(3, q - 1, 0);
            CHECK.holds(head(field) + "one, at the last point", x.powers(3) != 0);
        }
    }

    private static void powersLeast() {
        CHECK.sentence(19, "else the least t that is none such");
        for (int[] field : Model.fields()) {
            int q = field[2];
            if (q % 2 == 1 && q > 3) {
                FieldPerms x = Check.told(head(field) + "poly x^2;poly x^" + (q - 1) + ";");
                CHECK.same(head(field) + "x^2: half of q less 1", (q - 1) / 2, x.powers(0));
                CHECK.same(head(field) + "x^(q-1): at once", 1, x.powers(1));
            }
        }
        // x^3 over 7: its 2nd power is x^6; over 64: its 21st is x^63; x^7 over 64: its 9th
        CHECK.same("x^3 over 7", 2, Check.told("field 7 1;poly x^3;").powers(0));
        CHECK.same("x^3 over 64", 21, Check.told("field 2 6;poly x^3;").powers(0));
        CHECK.same("x^7 over 64", 9, Check.told("field 2 6;poly x^7;").powers(0));
        // x^4 over 9: its 2nd is x^8, the 3rd is left out anyway
        CHECK.same("x^4 over 9", 2, Check.told("field 3 2;poly x^4;").powers(0));
    }

    private static void cyclesOfAll() {
        CHECK.sentence(20, "How many CYCLES have n POINTS (1 to 64; n 0: all CYCLES)");
        CHECK.holds("in the terms", Document.says("Terms",
                "CYCLES of one that PERMUTES: rows of POINTS that go round"));
        for (int length = 1; length <= 64; length++) {
            FieldPerms x = byRounds(length);
            CHECK.same("one round of " + length, length == 1 ? 64 : 1, x.cycles(0, length));
            CHECK.same("one round of " + length + ", all", 65 - length, x.cycles(0, 0));
            CHECK.same("one round of " + length + ", of 1", length == 1 ? 64 : 64 - length, x.cycles(0, 1));
            CHECK.same("one round of " + length + ", of 64", length == 64 ? 1 : 0, x.cycles(0, 64));
            CHECK.same("one round of " + length + ", of the next", 0, x.cycles(0, length == 64 ? 63 : length + 1));
        }
        FieldPerms x = Check.told("field 2 1;poly x;poly x+1;");
        CHECK.same("q 2, x, of 1", 2, x.cycles(0, 1));
        CHECK.same("q 2, x+1, of 2", 1, x.cycles(1, 2));
        CHECK.same("q 2, more points than there are", 0, x.cycles(1, 64));
        CHECK.same("q 2, all", 1, x.cycles(1, 0));
    }

    private static void cyclesRefused() {
        CHECK.sentence(20, "IllegalStateException: it does not PERMUTE (so below)");
        for (int bad : new int[] {-1, 65, LEAST, GREATEST}) {
            CHECK.refused("n " + bad, THREE, ARGUMENT, x -> x.cycles(0, bad));
            CHECK.refused("does not permute, n " + bad, THREE, ARGUMENT, x -> x.cycles(1, bad));
            CHECK.refused("no polynomial, n " + bad, THREE, NO_SUCH, x -> x.cycles(3, bad));
        }
        for (int n : new int[] {0, 1, 7, 64}) {
            CHECK.refused("does not permute, n " + n, THREE, STATE, x -> x.cycles(1, n));
            CHECK.refused("is 1, n " + n, THREE, STATE, x -> x.cycles(2, n));
        }
    }

    private static void orderEdges() {
        CHECK.sentence(21, "ORDER");
        CHECK.holds("in the terms", Document.says("Terms", "the least n above 0 by which, n times, it is x"));
        CHECK.same("of x", 1, Check.told("field 2 6;poly x;").order(0));
        CHECK.same("of x, q 2", 1, Check.told("field 2 1;poly x;").order(0));
        CHECK.same("of x+1, q 2", 2, Check.told("field 2 1;poly x+1;").order(0));
        CHECK.same("one round of all", 64, byRounds(64).order(0));
        CHECK.same("rounds of 32 and 32", 32, byRounds(32, 32).order(0));
        CHECK.same("rounds of 4, 6, 10", 60, byRounds(4, 6, 10).order(0));
        CHECK.same("the greatest of 64 points", 2042040, byRounds(3, 5, 7, 8, 11, 13, 17).order(0));
        FieldPerms x = byRounds(3, 5, 7, 8, 11, 13, 17);
        x.again(0, 2042040);
        CHECK.same("so often it is x", 64, x.cycles(1, 1));
        x.again(0, 2042040 / 2);
        CHECK.same("half as often it is not", 56, x.cycles(2, 1));
    }

    private static void evenEdges() {
        CHECK.sentence(22, "1 it is EVEN");
        CHECK.holds("in the terms", Document.says("Terms", "it is EVEN, if q less the number of CYCLES is even"));
        for (int length = 1; length <= 64; length++) {
            CHECK.same("one round of " + length, length % 2, byRounds(length).even(0));
        }
        CHECK.same("two rounds of 2", 1, byRounds(2, 2).even(0));
        CHECK.same("rounds of 2 and 3", 0, byRounds(2, 3).even(0));
        for (int[] field : Model.fields()) {
            FieldPerms x = Check.told(head(field) + "poly x;");
            CHECK.same(head(field) + "x", 1, x.even(0));
            x.value(0, 0, 1);
            x.value(0, 1, 0);
            CHECK.same(head(field) + "two that change places", 0, x.even(0));
        }
    }

    private static void notPermutingRefused() {
        CHECK.sentence(21, "throws NoSuchElementException, IllegalStateException");
        CHECK.refused("order, one value short", THREE, STATE, x -> x.order(1));
        CHECK.refused("order of 1", THREE, STATE, x -> x.order(2));
        CHECK.refused("order of x^3 over 64", SIX, STATE, x -> x.order(2));
        CHECK.sentence(22, "throws NoSuchElementException, IllegalStateException");
        CHECK.refused("even, one value short", THREE, STATE, x -> x.even(1));
        CHECK.refused("even of 1", THREE, STATE, x -> x.even(2));
        CHECK.refused("even of 0 over 64", SIX, STATE, x -> x.even(5));
    }

    private static void orbitItself() {
        CHECK.sentence(23, "How many POINTS the ORBIT of a POINT has");
        CHECK.holds("in the terms", Document.says("Terms", "(as often as one likes, any of them; it, too)"));
        for (int[] field : Model.fields()) {
            int last = field[2] - 1;
            FieldPerms x = Check.told(head(field));
            CHECK.same(head(field) + "by none, the first", 1, x.orbit(0));
            CHECK.same(head(field) + "by none, the last", 1, x.orbit(last));
            Check.tell(x, head(field) + "poly x;poly 0;poly " + last + ";");
            CHECK.same(head(field) + "by x, the last", 1, x.orbit(last));
            x.value(0, 0, last);
            x.value(0, last, 0);
            CHECK.same(head(field) + "the first and the last", 2, x.orbit(last));
            x.value(0, 0, 0);
            CHECK.same(head(field) + "what does not permute leads nowhere", 1, x.orbit(last));
        }
    }

    private static void orbitOfAll() {
        CHECK.sentence(23, "How many POINTS the ORBIT of a POINT has");
        for (int length = 1; length <= 64; length++) {
            FieldPerms x = byRounds(length);
            CHECK.same("one round of " + length + ", from 0", length, x.orbit(0));
            CHECK.same("one round of " + length + ", from its end", length, x.orbit(length - 1));
            CHECK.same("one round of " + length + ", from the last", length == 64 ? 64 : 1, x.orbit(63));
        }
        FieldPerms x = Check.told("field 2 6;poly x+1;poly x+2;poly x+4;poly x+8;poly x+16;poly x+32;");
        CHECK.same("six together come to all", 64, x.orbit(63));
        CHECK.same("in one orbit", 1, x.orbits());
        x.value(5, 0, 0);
        CHECK.same("the sixth no longer permutes", 32, x.orbit(63));
        CHECK.same("in two", 2, x.orbits());
    }

    private static void orbitRefused() {
        CHECK.sentence(23, "throws NoSuchElementException");
        pointRefused("orbit", (x, bad) -> x.orbit(bad));
        CHECK.refused("2 of a new one", NEW, NO_SUCH, x -> x.orbit(2));
    }

    private static void orbitsEdges() {
        CHECK.sentence(24, "How many unlike ORBITS there are");
        CHECK.same("a new one", 2, new FieldPerms().orbits());
        for (int[] field : Model.fields()) {
            int q = field[2];
            FieldPerms x = Check.told(head(field));
            CHECK.same(head(field) + "by none", q, x.orbits());
            Check.tell(x, head(field) + "poly 0;poly x;");
            CHECK.same(head(field) + "by x", q, x.orbits());
            Check.tell(x, head(field) + "poly x+1;");
            CHECK.same(head(field) + "by x+1", q / field[0], x.orbits());
            Check.tell(x, head(field) + "poly 0-x;");
            CHECK.same(head(field) + "by less x", field[0] == 2 ? q : (q + 1) / 2, x.orbits());
        }
        CHECK.same("one round of all", 1, byRounds(64).orbits());
        CHECK.same("one round of all but the last", 2, byRounds(63).orbits());
    }

    private static void spreadEdges() {
        CHECK.sentence(25, "SPREAD");
        CHECK.holds("in the terms", Document.says("Terms", "the greatest number of POINTS s by which f(s and a) less"
                + " f(s) is b, over all POINTS a but 0 and all b."));
        for (int[] field : Model.fields()) {
            int q = field[2];
            FieldPerms x = Check.told(head(field) + "poly 0;poly x;poly x^2;poly x^3;");
            CHECK.same(head(field) + "of 0: all", q, x.spread(0));
            CHECK.same(head(field) + "of x: all", q, x.spread(1));
            CHECK.same(head(field) + "of x^2", q % 2 == 1 ? 1 : q, x.spread(2));
            // 3xa(x+a) is b: two at most, but for 3 points by 3, where a^3 alone is left
            int ofCube = field[0] == 3 ? q : 2;
            CHECK.same(head(field) + "of x^3", ofCube, x.spread(3));
        }
        FieldPerms x = Check.told("field 5 1;poly 0;");
        x.value(0, 4, 1);
        // one value of five: b is 0 at three points, for each a
        CHECK.same("all but one are 0", 3, x.spread(0));
    }

    private static void monomialsEdges() {
        CHECK.sentence(26, "Powers n of x from 1 to q less 1, as bits (n), that PERMUTE");
        CHECK.same("a new one", 2, new FieldPerms().monomials());
        for (int[] field : Model.fields()) {
            int q = field[2];
            long want = 0;
            for (int n = 1; n <= q - 1; n++) {
                want |= commonDivisor(n, q - 1) == 1 ? 1L << n : 0;
            }
            CHECK.same(head(field), want, Check.told(head(field)).monomials());
        }
        long of64 = Check.told("field 2 6;").monomials();
        CHECK.same("bit 62, the last", 1, of64 >>> 62 & 1);
        CHECK.same("not bit 63", 0, of64 >>> 63);
        CHECK.same("not bit 0", 0, of64 & 1);
        CHECK.same("polynomials that there are are no matter", of64, six().monomials());
    }

    private static int commonDivisor(int a, int b) {
        return b == 0 ? a : commonDivisor(b, a % b);
    }

    private static void dicksonsEdges() {
        CHECK.sentence(27, "DICKSON's, by a POINT, from the 1st to the 63rd, as bits, that PERMUTE");
        for (int[] field : Model.fields()) {
            int q = field[2];
            FieldPerms x = Check.told(head(field));
            long byZero = 0;
            long byOthers = 0;
            for (int n = 1; n <= 63; n++) {
                byZero |= commonDivisor(n, q - 1) == 1 ? 1L << n : 0;
                byOthers |= commonDivisor(n, q * q - 1) == 1 ? 1L << n : 0;
            }
            CHECK.same(head(field) + "by 0", byZero, x.dicksons(0));
            CHECK.same(head(field) + "by 1", byOthers, x.dicksons(1));
            CHECK.same(head(field) + "by the last", byOthers, x.dicksons(q - 1));
            CHECK.refuses(head(field) + "behind the last", NO_SUCH, () -> x.dicksons(q));
            CHECK.refuses(head(field) + "ahead of the first", NO_SUCH, () -> x.dicksons(-1));
        }
        // 61 less 1 and 63 have the divisor 3, 32 less 1 and 63 have none: the last bit makes it less than 0
        CHECK.holds("the 63rd is the last bit", Check.told("field 2 5;").dicksons(0) < 0);
        CHECK.same("bit 0 is never set", 0, new FieldPerms().dicksons(0) & 1);
        pointRefused("dicksons", (x, bad) -> x.dicksons(bad));
    }

    private static void binomialsEdges() {
        CHECK.sentence(28, "For how many POINTS a (0, too) x to the n (2 to 63) and a times x PERMUTES");
        FieldPerms x = new FieldPerms();
        // over 2 points x^n is x: a being 0 it permutes, a being 1 it is 0
        for (int n = 2; n <= 63; n++) {
            CHECK.same("q 2, " + n, 1, x.binomials(n));
        }
        // over 3: x^2 and ax takes 0 and less a to 0, and 1 and 2 alike with a 0
        FieldPerms y = Check.told("field 3 1;");
        CHECK.same("q 3, 2", 0, y.binomials(2));
        CHECK.same("q 3, 3: x and ax, but for a less 1", 2, y.binomials(3));
        CHECK.same("q 3, 63 is 3 anew", 2, y.binomials(63));
        for (int[] field : Model.fields()) {
            int q = field[2];
            FieldPerms z = Check.told(head(field));
            CHECK.holds(head(field) + "0, too", z.binomials(field[0]) >= 1);
            if (q <= 63) {
                CHECK.same(head(field) + "to the q", q - 1, z.binomials(q));
            }
        }
        // x^63 and ax takes 0 to 0 and each other s to 1 and as: 1 by a goes to 0, too
        CHECK.same("q 64, 63", 0, Check.told("field 2 6;").binomials(63));
        // x^32 and ax: a root other than 0 just if a is an s to the 31st, and 31 has no divisor with 63: all but 0
        CHECK.same("q 64, 32", 1, Check.told("field 2 6;").binomials(32));
    }

    private static void binomialsRefused() {
        CHECK.sentence(28, "throws IllegalArgumentException");
        for (int bad : new int[] {1, 64, 0, -1, 65, LEAST, GREATEST}) {
            CHECK.refused("n " + bad + " of a new one", NEW, ARGUMENT, x -> x.binomials(bad));
            CHECK.refused("n " + bad, THREE, ARGUMENT, x -> x.binomials(bad));
            CHECK.refused("n " + bad + " of 64", SIX, ARGUMENT, x -> x.binomials(bad));
        }
    }

    private static void printEdges() {
        CHECK.sentence(29, "From 0 on, of POLYNOMIAL by POLYNOMIAL, of VALUE by VALUE: 31 times what there is, and it");
        CHECK.same("of none", 0, new FieldPerms().print());
        CHECK.same("of none over 64", 0, Check.told("field 2 6;").print());
        CHECK.same("of 0 alone", 0, Check.told("field 2 6;poly 0;poly 0;").print());
        CHECK.same("0, 1", 1, Check.told("field 2 1;poly x;").print());
        CHECK.same("1, 0", 31, Check.told("field 2 1;poly x+1;").print());
        CHECK.same("0, 1, 1, 0", 31 * 31 + 31, Check.told("field 2 1;poly x;poly x+1;").print());
        FieldPerms x = six();
        long want = 0;
        for (int f = 0; f < 6; f++) {
            for (int s = 0; s < 64; s++) {
                want = 31 * want + x.at(f, s);
            }
        }
        CHECK.same("all places full: a long that goes round", want, x.print());
        long sixtyThrees = 0;
        for (int i = 0; i < 64; i++) {
            sixtyThrees = 31 * sixtyThrees + 63;
        }
        CHECK.same("64 times 63", sixtyThrees, Check.told("field 2 6;poly 63;").print());
    }

    private static void statusCounts() {
        CHECK.sentence(30, "How many calls were refused: 0 NoSuchElementException, 1 IllegalArgumentException,"
                + " 2 IllegalStateException");
        FieldPerms x = three();
        CHECK.same("nothing there yet", "[0, 0, 0]", Arrays.toString(Check.statuses(x)));
        for (int i = 1; i <= 100; i++) {
            CHECK.refuses("no polynomial", NO_SUCH, () -> x.at(3, 0));
            CHECK.refuses("no what", ARGUMENT, () -> x.told(7));
            CHECK.refuses("does not permute", STATE, () -> x.order(1));
        }
        CHECK.same("a hundred each", "[100, 100, 100]", Arrays.toString(Check.statuses(x)));
        FieldPerms y = new FieldPerms();
        y.undo();
        y.text(0);
        for (int i = 1; i <= 16; i++) {
            y.feed(0, 0, 0, 0, 0);
        }
        y.points(1, 0, 3);
        y.status(9);
        CHECK.same("NONE and a fault are no refusals", "[0, 0, 0]", Arrays.toString(Check.statuses(y)));
        FieldPerms z = three();
        CHECK.refuses("three wrong, one call", NO_SUCH, () -> z.value(3, 7, 7));
        z.undo();
        z.undo();
        CHECK.same("it is not taken back", 1, z.status(0));
        Check.tell(z, "field 3 1;");
        CHECK.same("nor told anew", 1, z.status(0));
    }

    private static void statusOthers() {
        CHECK.sentence(30, "NONE for others");
        FieldPerms x = three();
        Check.thrownBy(() -> x.told(7));
        for (int other : new int[] {-1, 3, 4, LEAST, GREATEST}) {
            CHECK.same("status(" + other + ")", -1, x.status(other));
        }
        CHECK.same("and it is counted nowhere", "[0, 1, 0]", Arrays.toString(Check.statuses(x)));
    }

    /** A question of a polynomial by its number. */
    private interface OfPoly {
        long ask(FieldPerms x, int number);
    }

    private static void polynomialsThatThereAreNot() {
        CHECK.sentence(5, "no such POLYNOMIAL, POINT (so below)");
        OfPoly[] questions = {(x, f) -> x.at(f, 0), (x, f) -> x.coefficient(f, 0), FieldPerms::degree,
            (x, f) -> x.taken(f, 0), FieldPerms::image, FieldPerms::permutes, FieldPerms::powers,
            (x, f) -> x.cycles(f, 0), FieldPerms::order, FieldPerms::even, FieldPerms::spread};
        for (int i = 0; i < questions.length; i++) {
            OfPoly question = questions[i];
            CHECK.refused("question " + i + ", none there yet", NEW, NO_SUCH, x -> question.ask(x, 0));
            for (int bad : new int[] {-1, 3, 5, 6, LEAST, GREATEST}) {
                CHECK.refused("question " + i + " of " + bad, THREE, NO_SUCH, x -> question.ask(x, bad));
            }
            CHECK.refused("question " + i + " of a seventh", SIX, NO_SUCH, x -> question.ask(x, 6));
            String first = Check.thrownBy(() -> question.ask(three(), 0));
            CHECK.same("question " + i + " of the first", "nothing", first);
            String last = Check.thrownBy(() -> question.ask(Check.told("field 3 1;poly 1;poly x;"), 1));
            CHECK.same("question " + i + " of the last", "nothing", last);
        }
    }

    /** A question of a point. */
    private interface OfPoint {
        long ask(FieldPerms x, int point);
    }

    private static void pointRefused(String what, OfPoint question) {
        for (int bad : new int[] {-1, 7, 63, 64, LEAST, GREATEST}) {
            CHECK.refused(what + " of point " + bad, THREE, NO_SUCH, x -> question.ask(x, bad));
        }
        CHECK.refused(what + " of point 64 of 64", SIX, NO_SUCH, x -> question.ask(x, 64));
        CHECK.same(what + " of the first", "nothing", Check.thrownBy(() -> question.ask(six(), 0)));
        CHECK.same(what + " of the last", "nothing", Check.thrownBy(() -> question.ask(six(), 63)));
    }

    private static void allRowsOfSmallFields() {
        CHECK.sentence("Terms", "IMAGE: how many POINTS are VALUES. A POLYNOMIAL PERMUTES, if all are.");
        for (int[] field : new int[][] {{2, 1, 2}, {3, 1, 3}, {2, 2, 4}, {5, 1, 5}}) {
            int rows = (int) Math.pow(field[2], field[2]);
            for (int n = 0; n < rows; n++) {
                oneRow(field, Model.digits(n, field[2], field[2]));
            }
        }
    }

    /** By values and by powers a row permutes alike; all else by the terms' own words. */
    private static void oneRow(int[] field, int[] row) {
        String what = Arrays.toString(row) + " ";
        Model.Base base = Model.base(field[0], field[1]);
        FieldPerms x = byRow(field, row);
        int image = (int) Arrays.stream(row).distinct().count();
        boolean permutes = image == row.length;
        CHECK.same(what + "image", image, x.image(0));
        CHECK.same(what + "permutes", permutes ? 1 : 0, x.permutes(0));
        CHECK.same(what + "powers", powersOf(base, row), x.powers(0));
        CHECK.same(what + "powers are NONE just if it permutes", permutes ? 1 : 0, x.powers(0) == -1 ? 1 : 0);
        CHECK.same(what + "degree", base.degree(base.through(row)), x.degree(0));
        CHECK.same(what + "spread", spreadOf(base, row), x.spread(0));
        if (permutes) {
            CHECK.same(what + "order", orderOf(row), x.order(0));
            CHECK.same(what + "even", (row.length - x.cycles(0, 0)) % 2 == 0 ? 1 : 0, x.even(0));
            CHECK.same(what + "cycles are orbits", x.orbits(), x.cycles(0, 0));
        } else {
            CHECK.refuses(what + "order", STATE, () -> x.order(0));
            CHECK.refuses(what + "even", STATE, () -> x.even(0));
            CHECK.refuses(what + "cycles", STATE, () -> x.cycles(0, 0));
            CHECK.same(what + "orbits", row.length, x.orbits());
        }
    }

    private static int powersOf(Model.Base base, int[] row) {
        if (Arrays.stream(row).filter(v -> v == 0).count() != 1) {
            return 0;
        }
        int[] f = base.through(row);
        for (int t = 1; t <= base.q - 2; t++) {
            if (t % base.p != 0 && base.degree(base.raise(f, t)) == base.q - 1) {
                return t;
            }
        }
        return -1;
    }

    private static int spreadOf(Model.Base base, int[] row) {
        int greatest = 0;
        for (int a = 1; a < base.q; a++) {
            int[] found = new int[base.q];
            for (int s = 0; s < base.q; s++) {
                found[base.plus[row[base.plus[s][a]]][base.minus[row[s]]]]++;
            }
            greatest = Math.max(greatest, Arrays.stream(found).max().getAsInt());
        }
        return greatest;
    }

    private static int orderOf(int[] row) {
        int[] made = row.clone();
        int n = 1;
        while (!isX(made)) {
            for (int s = 0; s < row.length; s++) {
                made[s] = row[made[s]];
            }
            n++;
        }
        return n;
    }

    private static boolean isX(int[] row) {
        for (int s = 0; s < row.length; s++) {
            if (row[s] != s) {
                return false;
            }
        }
        return true;
    }
}
