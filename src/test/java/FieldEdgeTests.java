import java.util.Arrays;
import java.util.HashSet;
import java.util.NoSuchElementException;
import java.util.Set;

/** The edges that the terms name for the field, its points and its polynomials, sentence by sentence. */
public final class FieldEdgeTests {
    private static final Check CHECK = new Check();
    private static final Class<?> NO_SUCH = NoSuchElementException.class;

    public static void main(String[] args) {
        whichFields();
        whichPoints();
        digitsOfPoints();
        digitsGoRound();
        theModulus();
        theModulusIsNoProduct();
        theLeastModulus();
        theLeastModulusOfDegreeOne();
        coefficientsOfAllPowers();
        broughtDown();
        oneForEachRow();
        degreeOfNone();
        sixAtMost();
        CHECK.end("FieldEdgeTests");
    }

    private static String head(int[] field) {
        return "field " + field[0] + " " + field[1] + ";";
    }

    private static void whichFields() {
        CHECK.sentence("Terms", "q being P to the M (P a prime, q 2 to 64)");
        Set<String> right = new HashSet<>();
        for (int[] field : Model.fields()) {
            right.add(field[0] + " " + field[1]);
            FieldPerms x = new FieldPerms();
            CHECK.same(head(field), 0, Check.tell(x, head(field)));
            CHECK.same(head(field) + " told 0", field[2], x.told(0));
            CHECK.same(head(field) + " told 1", field[0], x.told(1));
            CHECK.same(head(field) + " told 2", field[1], x.told(2));
        }
        CHECK.same("18 primes and 9 powers", 27, right.size());
        for (int p = 0; p <= 130; p++) {
            for (int m = 0; m <= 9; m++) {
                if (!right.contains(p + " " + m)) {
                    noField(p, m, right.contains(p + " 1"));
                }
            }
        }
    }

    private static void noField(int p, int m, boolean rightPrime) {
        String text = "field " + p + " " + m + ";";
        FieldPerms x = new FieldPerms();
        CHECK.same(text, -8, Check.tell(x, text));
        CHECK.same(text + " fault", rightPrime ? text.lastIndexOf(' ') + 1 : 6, x.fault());
        CHECK.same(text + " leaves q", 2, x.told(0));
    }

    private static void whichPoints() {
        CHECK.sentence("Terms", "numbered from 0 on");
        for (int[] field : Model.fields()) {
            int q = field[2];
            FieldPerms x = Check.told(head(field));
            CHECK.same(head(field) + " the first", 0, x.points(0, 0, 0));
            CHECK.same(head(field) + " the last", q - 1, x.points(q - 1, 0, 0));
            CHECK.refuses(head(field) + " ahead of the first", NO_SUCH, () -> x.points(-1, 0, 0));
            CHECK.refuses(head(field) + " behind the last", NO_SUCH, () -> x.points(q, 0, 0));
        }
    }

    private static void digitsOfPoints() {
        CHECK.sentence("Terms", "of POINT n the digits of n by base P, the last first, are c 0, c 1, .. c (M less 1)");
        for (int[] field : Model.fields()) {
            int p = field[0];
            for (int n = 0; n < field[2]; n++) {
                FieldPerms x = Check.told(head(field));
                int sum = 0;
                int risen = 1;
                for (int left = n; left > 0; left /= p) {
                    sum = x.points(sum, x.points(left % p, risen, 2), 0);
                    // with M 1 there is no y: just one digit
                    risen = left >= p ? x.points(risen, p, 2) : risen;
                }
                CHECK.same(head(field) + " point " + n + " by its digits", n, sum);
            }
        }
    }

    private static void digitsGoRound() {
        CHECK.sentence("Terms", "digits are reckoned modulo P");
        for (int[] field : Model.fields()) {
            Model.Base base = Model.base(field[0], field[1]);
            for (int a = 0; a < field[2]; a++) {
                FieldPerms x = Check.told(head(field));
                for (int b = 0; b < field[2]; b++) {
                    String what = head(field) + " " + a + ", " + b;
                    CHECK.same(what + " sum", base.plus[a][b], x.points(a, b, 0));
                    CHECK.same(what + " less", base.plus[a][base.minus[b]], x.points(a, b, 1));
                    CHECK.same(what + " product", base.times[a][b], x.points(a, b, 2));
                }
            }
        }
        // no digit is carried: 2 and 1 are 0, 22 and 1 by base 3 are 20, 222 and 111 are 0
        FieldPerms x = Check.told("field 3 3;");
        CHECK.same("the last digit goes round", 0, x.points(2, 1, 0));
        CHECK.same("and leaves the next alone", 6, x.points(8, 1, 0));
        CHECK.same("all go round", 0, x.points(26, 13, 0));
        CHECK.same("below 0", 2, x.points(0, 1, 1));
        CHECK.same("below 0, all digits", 26, x.points(0, 13, 1));
    }

    private static void theModulus() {
        CHECK.sentence("Terms", "y to the M being less what THE MODULUS tells");
        for (int[] field : Model.fields()) {
            if (field[1] > 1) {
                FieldPerms x = Check.told(head(field));
                int top = field[2] / field[0];
                int risen = x.points(top, field[0], 2);
                CHECK.same(head(field) + " y to the M and the modulus", 0, x.points(risen, x.told(3), 0));
            }
        }
        // by hand: 4 y^2=y+1, 8 y^3=y+1, 16 y^4=y+1, 32 y^5=y^2+1, 64 y^6=y+1, 9 y^2=2, 27 y^3=y+2, 25 y^2=3, 49 y^2=6
        String[] heads = {"field 2 2;", "field 2 3;", "field 2 4;", "field 2 5;", "field 2 6;", "field 3 2;",
            "field 3 3;", "field 5 2;", "field 7 2;"};
        int[] tops = {2, 4, 8, 16, 32, 3, 9, 5, 7};
        int[] want = {3, 3, 3, 5, 3, 2, 5, 3, 6};
        for (int i = 0; i < heads.length; i++) {
            FieldPerms x = Check.told(heads[i]);
            CHECK.same(heads[i] + " y to the M", want[i], x.points(tops[i], x.told(1), 2));
        }
    }

    /** Were it one, its two parts would be points whose product is 0. */
    private static void theModulusIsNoProduct() {
        CHECK.sentence("Terms", "no product of two such sums of lesser degrees (1 or more)");
        for (int[] field : Model.fields()) {
            for (int a = 1; a < field[2]; a++) {
                FieldPerms x = Check.told(head(field));
                for (int b = 1; b < field[2]; b++) {
                    CHECK.holds(head(field) + " " + a + " times " + b + " is not 0", x.points(a, b, 2) != 0);
                }
            }
        }
    }

    private static void theLeastModulus() {
        CHECK.sentence("Terms", "of all these that whose number (of digits d) is least");
        for (int[] field : Model.fields()) {
            CHECK.same(head(field), Model.leastModulus(field[0], field[1]), Check.told(head(field)).told(3));
        }
    }

    private static void theLeastModulusOfDegreeOne() {
        CHECK.sentence("Terms", "with M 1 it is y: POINTS are numbers modulo P");
        for (int[] field : Model.fields()) {
            if (field[1] == 1) {
                int p = field[0];
                FieldPerms x = Check.told(head(field));
                CHECK.same(head(field) + " modulus", 0, x.told(3));
                CHECK.same(head(field) + " the last and 1", 0, x.points(p - 1, 1, 0));
                CHECK.same(head(field) + " 0 less 1", p - 1, x.points(0, 1, 1));
                CHECK.same(head(field) + " the last by itself", 1, x.points(p - 1, p - 1, 2));
            }
        }
    }

    private static void coefficientsOfAllPowers() {
        CHECK.sentence("Terms", "a COEFFICIENT (a POINT) for each power of x from 0 to q less 1");
        for (int[] field : Model.fields()) {
            int q = field[2];
            FieldPerms x = Check.told(head(field) + "poly " + (q - 1) + "*x^" + (q - 1) + ";poly " + (q - 1) + ";");
            for (int k = 0; k < q; k++) {
                CHECK.same(head(field) + " of the last power for " + k, k == q - 1 ? q - 1 : 0, x.coefficient(0, k));
                CHECK.same(head(field) + " of the first power for " + k, k == 0 ? q - 1 : 0, x.coefficient(1, k));
            }
        }
    }

    private static void broughtDown() {
        CHECK.sentence("Terms", "All are brought down: x to the q is x");
        for (int[] field : Model.fields()) {
            int q = field[2];
            int[] powers = {q - 1, q, q + 1, 2 * q - 2, 2 * q - 1, 9999};
            StringBuilder text = new StringBuilder(head(field));
            for (int n : powers) {
                text.append("poly x^").append(n).append(';');
            }
            FieldPerms x = Check.told(text.toString());
            for (int f = 0; f < powers.length; f++) {
                // above q less 1 each q less 1 falls away, but never the last
                int k = (powers[f] - 1) % (q - 1) + 1;
                CHECK.same(head(field) + " x^" + powers[f], k, x.degree(f));
                CHECK.same(head(field) + " x^" + powers[f] + " coefficient", 1, x.coefficient(f, k));
                CHECK.same(head(field) + " x^" + powers[f] + " at 0", 0, x.at(f, 0));
            }
            CHECK.same(head(field) + " x^(q-1) is 1 at all others", q - 1, x.taken(0, 1));
            for (int s = 0; s < q; s++) {
                CHECK.same(head(field) + " x^q at " + s, s, x.at(1, s));
            }
        }
    }

    private static void oneForEachRow() {
        CHECK.sentence("Terms", "each is told by its VALUES at all POINTS, and each row of VALUES by just one");
        for (int[] field : new int[][] {{2, 1, 2}, {3, 1, 3}, {2, 2, 4}}) {
            int q = field[2];
            int rows = (int) Math.pow(q, q);
            Set<String> met = new HashSet<>();
            for (int n = 0; n < rows; n++) {
                int[] row = Model.digits(n, q, q);
                int[] coefficients = coefficientsOf(field, row);
                met.add(Arrays.toString(coefficients));
                int[] values = Model.base(field[0], field[1]).values(coefficients);
                CHECK.same(head(field) + " values", Arrays.toString(row), Arrays.toString(values));
            }
            CHECK.same(head(field) + " unlike ones", rows, met.size());
        }
    }

    private static int[] coefficientsOf(int[] field, int[] row) {
        FieldPerms x = Check.told(head(field) + "poly x;");
        for (int s = 0; s < row.length; s++) {
            x.value(0, s, row[s]);
        }
        int[] found = new int[row.length];
        for (int k = 0; k < row.length; k++) {
            found[k] = x.coefficient(0, k);
        }
        return found;
    }

    private static void degreeOfNone() {
        CHECK.sentence("Terms", "the greatest power with a COEFFICIENT that is not POINT 0; NONE without one");
        for (int[] field : Model.fields()) {
            int q = field[2];
            FieldPerms x = Check.told(head(field) + "poly 0;poly 1;poly x^" + (q - 1) + ";poly x-x;poly x^" + q
                    + "-x;");
            int[] want = {-1, 0, q - 1, -1, -1};
            for (int f = 0; f < want.length; f++) {
                CHECK.same(head(field) + " f" + f, want[f], x.degree(f));
            }
            x.value(0, q - 1, 1);
            CHECK.same(head(field) + " one value that is not 0", q - 1, x.degree(0));
            x.value(0, q - 1, 0);
            CHECK.same(head(field) + " and 0 again", -1, x.degree(0));
        }
    }

    private static void sixAtMost() {
        CHECK.sentence("Terms", "POLYNOMIALS (6 at most) are numbered from 0 on");
        StringBuilder text = new StringBuilder("field 7 1;");
        for (int count = 1; count <= 6; count++) {
            text.append("poly ").append(count).append(';');
            FieldPerms x = Check.told(text.toString());
            int last = count - 1;
            CHECK.same("of " + count + " the first", 1, x.at(0, 6));
            CHECK.same("of " + count + " the last", count, x.at(last, 6));
            CHECK.refuses("of " + count + " behind the last", NO_SUCH, () -> x.at(last + 1, 6));
            CHECK.refuses("of " + count + " ahead of the first", NO_SUCH, () -> x.at(-1, 6));
        }
        FieldPerms x = new FieldPerms();
        CHECK.same("a seventh is none", -7, Check.tell(x, text + "poly x;"));
        CHECK.same("nor are the six ahead of it", 0, x.told(4));
    }
}
