import java.util.NoSuchElementException;

/** At least one check of each promise, by answers worked out by hand from the document. */
public final class PromiseTests {
    private static final Check CHECK = new Check();
    private static final Class<?> NO_SUCH = NoSuchElementException.class;
    private static final Class<?> ARGUMENT = IllegalArgumentException.class;
    private static final Class<?> STATE = IllegalStateException.class;
    private static final String SIX = "poly x;poly x;poly x;poly x;poly x;poly x;";

    public static void main(String[] args) {
        promise1();
        promise2();
        promise3();
        promise3Values();
        promise3Dickson();
        promise3CannotStand();
        promise3NoneSuch();
        promise3Ends();
        promise3Seventh();
        promise3Depth();
        promise3Fields();
        promise4();
        promise5();
        promise6();
        promise7();
        promise8();
        promise9();
        promise10();
        promise10Window();
        promise11();
        promise12();
        promise13();
        promise14();
        promise15();
        promise16And17();
        promise18();
        promise19();
        promise20();
        promise21();
        promise22();
        promise23And24();
        promise25();
        promise26();
        promise27();
        promise28();
        promise29();
        promise30();
        throwingChangesNothing();
        CHECK.end("PromiseTests");
    }

    private static void promise1() {
        CHECK.begin("promise 1");
        FieldPerms x = new FieldPerms();
        int[] want = {2, 2, 1, 0, 0, 0, 0};
        for (int i = 0; i < want.length; i++) {
            CHECK.same("told " + i, want[i], x.told(i));
        }
        CHECK.same("fault", -1, x.fault());
        CHECK.same("undo", -1, x.undo());
        CHECK.same("print", 0, x.print());
        for (int i = 0; i < 3; i++) {
            CHECK.same("status " + i, 0, x.status(i));
        }
        FieldPerms y = Check.told("field 3 1;poly x;");
        CHECK.same("another object is its own", 0, x.told(4));
        CHECK.same("another object is its own", 1, y.told(4));
        CHECK.same("NONE", -1, FieldPerms.NONE);
    }

    private static void promise2() {
        CHECK.begin("promise 2");
        FieldPerms x = new FieldPerms();
        for (int i = 1; i <= 15; i++) {
            CHECK.same("feed " + i, 20 * i, x.feed(i, -1, 0, Integer.MIN_VALUE, 7));
        }
        CHECK.same("feed beyond 300", -1, x.feed(1, 2, 3, 4, 5));
        CHECK.same("told 5", 300, x.told(5));
        CHECK.same("a fault at the first byte", -9, x.text(300));
        CHECK.same("fed again", 20, x.feed(0, 0, 0, 0, 0));
        // "fiel" "d 5 " "1;po" "ly x" ";   "
        FieldPerms y = new FieldPerms();
        y.feed(0x6669656c, 0x64203520, 0x313b706f, 0x6c792078, 0x3b202020);
        CHECK.same("text", 1, y.text(20));
        CHECK.same("q", 5, y.told(0));
        for (int b = 0; b < 256; b++) {
            CHECK.same("no text of the one byte " + b, -9, oneByte(b));
        }
    }

    private static int oneByte(int b) {
        FieldPerms x = new FieldPerms();
        x.feed(b << 24, 0, 0, 0, 0);
        return x.text(1);
    }

    private static void promise3() {
        CHECK.begin("promise 3");
        FieldPerms x = new FieldPerms();
        Check.feed(x, "field 5 1;poly x;");
        CHECK.refuses("text(-1)", ARGUMENT, () -> x.text(-1));
        CHECK.refuses("text(21)", ARGUMENT, () -> x.text(21));
        CHECK.same("the tape stays", 20, x.told(5));
        CHECK.same("text", 1, x.text(17));
        CHECK.same("the tape is empty", 0, x.told(5));
        CHECK.same("a fault", -9, Check.tell(x, "field 7 1;poly"));
        CHECK.same("the tape is empty behind a fault", 0, x.told(5));
        CHECK.same("all else stays: q", 5, x.told(0));
        CHECK.same("all else stays: polynomials", 1, x.told(4));
        CHECK.same("all else stays: sums", 1, x.points(3, 3, 0));
        CHECK.same("all else stays: acts", 1, x.told(6));
        CHECK.same("a field alone", 0, Check.tell(x, "field 3 2;"));
        CHECK.same("polynomials are gone", 0, x.told(4));
        Check.feed(x, "field 2 2;poly x;");
        CHECK.same("the first n bytes alone", 0, x.text(10));
        CHECK.same("empty, the bytes behind too", 0, x.told(5));
        StringBuilder long300 = new StringBuilder("field 2 1;poly  x");
        while (long300.length() < 299) {
            long300.append(long300.length() % 2 == 1 ? '+' : '1');
        }
        CHECK.same("300 bytes", 1, Check.tell(x, long300.append(';').toString()));
        CHECK.same("x and 141 times 1", 1, x.at(0, 0));
    }

    /** Rows of values over the numbers modulo 7. */
    private static void promise3Values() {
        CHECK.begin("promise 3, values");
        row("3-2-x", "field 7 1;poly 3-2-x;", 1, 0, 6, 5, 4, 3, 2);
        row("products bind before sums", "field 7 1;poly 1+x*2;", 1, 3, 5, 0, 2, 4, 6);
        row("powers bind before products", "field 7 1;poly 2*x^2;", 0, 2, 1, 4, 4, 1, 2);
        row("brackets", "field 7 1;poly (1+x)*2;", 2, 4, 6, 1, 3, 5, 0);
        row("a bracket to a power", "field 7 1;poly (x+1)^2;", 1, 4, 2, 2, 4, 1, 0);
        row("to the 0", "field 7 1;poly x^0;", 1, 1, 1, 1, 1, 1, 1);
        row("0 to the 0", "field 7 1;poly 0^0;", 1, 1, 1, 1, 1, 1, 1);
        row("0 to the 1", "field 7 1;poly 0^1;", 0, 0, 0, 0, 0, 0, 0);
        row("x to the 7 is x", "field 7 1;poly x^7;", 0, 1, 2, 3, 4, 5, 6);
        row("9,999 is 3 behind sixes", "field 7 1;poly x^9999;", 0, 1, 1, 6, 1, 6, 6);
        row("leading zeros", "field 007 01;poly x^00000000000000000001+000006;", 6, 0, 1, 2, 3, 4, 5);
        row("no blanks but where words meet", "field7 1;poly6;", 6, 6, 6, 6, 6, 6, 6);
        row("blanks", "  field  7  1  ;  poly  2  *  x  ^  1  ;  ", 0, 2, 4, 6, 1, 3, 5);
        FieldPerms x = Check.told("field 7 1;poly x^2;poly x+1;poly f0(f1(x));poly f 1 ( f0(x) )^2;"
                + "poly f1(x)*f0(2)-x;");
        CHECK.same("f0 of f1", 9 % 7, x.at(2, 2));
        CHECK.same("f1 of f0, squared", 25 % 7, x.at(3, 2));
        CHECK.same("f among products", 3 * 4 - 2 - 7, x.at(4, 2));
    }

    private static void row(String what, String text, int... want) {
        FieldPerms x = new FieldPerms();
        CHECK.same(what + ": polynomials", 1, Check.tell(x, text));
        if (x.told(4) == 1) {
            for (int s = 0; s < want.length; s++) {
                CHECK.same(what + " at " + s, want[s], x.at(0, s));
            }
        }
    }

    private static void promise3Dickson() {
        CHECK.begin("promise 3, Dickson's");
        row("0th", "field 7 1;poly dickson 0 3;", 2, 2, 2, 2, 2, 2, 2);
        row("0th of the field of 4", "field 2 2;poly dickson 0 3;", 0, 0, 0, 0);
        row("1st", "field 7 1;poly dickson 1 3;", 0, 1, 2, 3, 4, 5, 6);
        row("2nd, x^2-6", "field 7 1;poly dickson 2 3;", 1, 2, 5, 3, 3, 5, 2);
        row("3rd, x^3-9x", "field 7 1;poly dickson 3 3;", 0, 6, 4, 0, 0, 3, 1);
        row("by 0 a power", "field 7 1;poly dickson 9999 0-x^3;", 0, 0, 0, 0, 0, 0, 0);
        row("to a power", "field 7 1;poly dickson 1 3^2;", 0, 1, 4, 2, 2, 4, 1);
        byRecursion();
    }

    /** As the terms tell them: each by the two ahead of it. */
    private static void byRecursion() {
        Model.Base field = Model.base(3, 3);
        for (int n : new int[] {4, 5, 63, 64, 1000, 8191, 8192, 9998, 9999}) {
            FieldPerms x = Check.told("field 3 3;poly dickson " + n + " 5;");
            int[] want = field.values(field.dickson(n, 5));
            for (int s = 0; s < 27; s++) {
                CHECK.same("the " + n + "th at " + s, want[s], x.at(0, s));
            }
        }
    }

    private static void fault(int kind, int place, String text) {
        FieldPerms x = Check.told("field 3 1;poly x;");
        CHECK.same("fault of '" + text + "'", kind - 10, Check.tell(x, text));
        CHECK.same("place of '" + text + "'", place, x.fault());
    }

    private static void promise3CannotStand() {
        CHECK.begin("promise 3, fault 1");
        fault(1, 0, "");
        fault(1, 4, "    ");
        fault(1, 0, "fiel 5 1;");
        fault(1, 0, "fieldx 5 1;");
        fault(1, 0, "Field 5 1;");
        fault(1, 5, "field");
        fault(1, 7, "field  ");
        fault(1, 6, "field x 1;");
        fault(1, 7, "field 5;1;");
        fault(1, 10, "field 5 1 1;");
        fault(1, 9, "field 5 1");
        fault(1, 10, "field 5 1;;");
        fault(1, 10, "field 5 1;x;");
        fault(1, 11, "field 5 1; polyx;");
        fault(1, 14, "field 5 1;poly");
        fault(1, 14, "field 5 1;poly;");
        fault(1, 15, "field 5 1;poly +x;");
        fault(1, 15, "field 5 1;poly -1;");
        fault(1, 16, "field 5 1;poly x2;");
        fault(1, 16, "field 5 1;poly 2x;");
        fault(1, 17, "field 5 1;poly x+;");
        fault(1, 17, "field 5 1;poly x**x;");
        fault(1, 17, "field 5 1;poly x^x;");
        fault(1, 18, "field 5 1;poly x^2^2;");
        fault(1, 16, "field 5 1;poly x");
        fault(1, 16, "field 5 1;poly x)");
        fault(1, 16, "field 5 1;poly ();");
        fault(1, 17, "field 5 1;poly (x;");
        fault(1, 16, "field 5 1;poly f(x);");
        fault(1, 24, "field 5 1;poly x;poly f0;");
        fault(1, 25, "field 5 1;poly x;poly f0 x;");
        fault(1, 15, "field 5 1;poly fx(x);");
        fault(1, 15, "field 5 1;poly dicksonx;");
        fault(1, 15, "field 5 1;poly xa;");
        fault(1, 15, "field 5 1;poly xz;");
        fault(1, 15, "field 5 1;poly ax;");
        fault(1, 16, "field 5 1;poly x`;");
        fault(1, 16, "field 5 1;poly x{;");
        fault(1, 22, "field 5 1;poly dickson;");
        fault(1, 24, "field 5 1;poly dickson 1;");
        fault(1, 25, "field 5 1;poly dickson 1 -;");
        fault(1, 15, "field 5 1;poly poly x;");
        fault(1, 15, "field 5 1;poly field;");
        fault(1, 16, "field 5 1;poly x\t+1;");
        fault(1, 15, "field 5 1;poly X;");
        fault(1, 16, "field 5 1;poly x,;");
        fault(1, 10, "field 5 1;\0");
        fault(1, 16, "field 5 1;poly x" + (char) 233 + ";");
        fault(1, 17, "field 5 1;poly x^(((((((x;");
    }

    private static void promise3NoneSuch() {
        CHECK.begin("promise 3, fault 2");
        for (int p = 0; p <= 70; p++) {
            boolean prime = p == 2 || p == 3 || p == 5 || p == 7 || p > 10 && p < 64
                    && p % 2 != 0 && p % 3 != 0 && p % 5 != 0 && p % 7 != 0;
            FieldPerms x = new FieldPerms();
            CHECK.same("P " + p, prime ? 0 : -8, Check.tell(x, "field " + p + " 1;"));
            CHECK.same("P " + p + ", its place", prime ? -1 : 6, x.fault());
        }
        fault(2, 6, "field 4294967298 1;");
        fault(2, 6, "field 4 x");
        fault(2, 6, "field 51;");
        fault(2, 8, "field 2 7;");
        fault(2, 8, "field 2 4294967297;");
        fault(2, 8, "field 3 4;");
        fault(2, 8, "field 5 3;");
        fault(2, 8, "field 7 3;");
        fault(2, 9, "field 11 2;");
        fault(2, 8, "field 5 0;");
        fault(2, 8, "field 5 0");
        fault(2, 15, "field 5 1;poly 5;");
        fault(2, 15, "field 5 1;poly 99999999999999999999999999;");
        fault(2, 15, "field 2 6;poly 64;");
        fault(2, 17, "field 5 1;poly x*5*");
        fault(2, 17, "field 5 1;poly x^10000;");
        fault(2, 17, "field 5 1;poly x^4294967296;");
        fault(2, 16, "field 5 1;poly f0(x);");
        fault(2, 16, "field 5 1;poly f0");
        fault(2, 23, "field 5 1;poly x;poly f1(x);");
        fault(2, 26, "field 5 1;poly x;poly f0(f1(x));");
        fault(2, 23, "field 5 1;poly dickson 10000 1;");
        fault(2, 25, "field 5 1;poly dickson 1 5;");
        fault(2, 23, "field 5 1;poly dickson 10000 5;");
        row("the greatest point", "field 5 1;poly 4;", 4, 4, 4, 4, 4);
    }

    /** What stands behind the first n bytes belongs to no word and no number of theirs. */
    private static void promise3Ends() {
        CHECK.begin("promise 3, ends");
        FieldPerms x = new FieldPerms();
        Check.feed(x, "field 5 12;");
        CHECK.same("a number that is cut", -9, x.text(9));
        CHECK.same("at the length", 9, x.fault());
        Check.feed(x, "fields");
        CHECK.same("a word that is cut", -9, x.text(5));
        CHECK.same("at the length", 5, x.fault());
        Check.feed(x, "poly x;poly x;poly x;");
        CHECK.same("it is not field", -9, x.text(0));
        CHECK.same("ends behind no byte", 0, x.fault());
        String long299 = "field 5 1;poly x" + " ".repeat(281) + "+ ";
        CHECK.same("300 bytes that end in a number", -9, Check.tell(x, long299 + "4"));
        CHECK.same("at the length", 300, x.fault());
        CHECK.same("300 bytes that end in a word", -9, Check.tell(x, long299 + "x"));
        CHECK.same("at the length", 300, x.fault());
        CHECK.same("300 bytes that end in a sign", -9, Check.tell(x, long299 + "("));
        CHECK.same("at the length", 300, x.fault());
        CHECK.same("300 digits", -8, Check.tell(x, "field " + "1".repeat(294)));
        CHECK.same("at the first", 6, x.fault());
        CHECK.same("300 letters", -9, Check.tell(x, "f".repeat(300)));
        CHECK.same("at the first", 0, x.fault());
        CHECK.same("300 signs", -9, Check.tell(x, ";".repeat(300)));
        CHECK.same("at the first", 0, x.fault());
    }

    private static void promise3Seventh() {
        CHECK.begin("promise 3, fault 3");
        FieldPerms x = new FieldPerms();
        CHECK.same("six", 6, Check.tell(x, "field 2 1;" + SIX));
        CHECK.same("six and blanks", 6, Check.tell(x, "field 2 1;" + SIX + "  "));
        fault(3, 53, "field 2 1;" + SIX + " poly x;");
        fault(3, 52, "field 2 1;" + SIX + "poly");
        fault(1, 52, "field 2 1;" + SIX + "polyx;");
        fault(1, 52, "field 2 1;" + SIX + "x;");
        fault(1, 50, "field 2 1;" + SIX.substring(0, 40) + "poly x;");
    }

    private static void promise3Depth() {
        CHECK.begin("promise 3, fault 4");
        row("four deep", "field 3 1;poly ((((x+1))));", 1, 2, 0);
        row("side by side", "field 3 1;poly ((((x))))+((((1))))*(((x)));", 0, 2, 1);
        fault(4, 19, "field 5 1;poly (((((x)))));");
        fault(4, 19, "field 5 1;poly (((((");
        fault(1, 19, "field 5 1;poly ((((");
        fault(4, 34, "field 5 1;poly x;poly ((f0(1+(1+f0(x)))));");
        fault(2, 33, "field 5 1;poly x;poly ((f0(1+(1+f9(x)))));");
        fault(1, 34, "field 5 1;poly x;poly ((f0(1+(1+f0)))));");
        fault(1, 20, "field 5 1;poly ((((x(x)))));");
        FieldPerms x = Check.told("field 5 1;poly x+1;poly f0(f0(f0(f0(x))));");
        CHECK.same("f four deep", 4, x.at(1, 0));
    }

    /** The terms' own words for the modulus: of all that are no product the one whose number is least. */
    private static void promise3Fields() {
        CHECK.begin("promise 3, fields");
        for (int p = 2; p <= 61; p++) {
            int q = p;
            for (int m = 1; q <= 64; m++, q *= p) {
                FieldPerms x = new FieldPerms();
                if (Check.tell(x, "field " + p + " " + m + ";poly x;") == 1) {
                    CHECK.same("q of " + p + " " + m, q, x.told(0));
                    CHECK.same("modulus of " + p + " " + m, Model.leastModulus(p, m), x.told(3));
                    CHECK.same("x is x", q, x.image(0));
                }
            }
        }
    }

    private static void promise4() {
        CHECK.begin("promise 4");
        FieldPerms x = new FieldPerms();
        CHECK.same("ahead of any", -1, x.fault());
        Check.tell(x, "field 5 1;poly x+;");
        CHECK.same("a fault's place", 17, x.fault());
        CHECK.refuses("text(1)", ARGUMENT, () -> x.text(1));
        CHECK.same("a text that threw does not count", 17, x.fault());
        Check.tell(x, "field 5 1;");
        CHECK.same("without one", -1, x.fault());
        Check.tell(x, "fiel");
        CHECK.same("a fault's place", 0, x.fault());
        x.undo();
        CHECK.same("it is still the latest text()", 0, x.fault());
    }

    private static void promise5() {
        CHECK.begin("promise 5");
        FieldPerms x = Check.told("field 5 1;poly x^2;poly x;");
        CHECK.same("what it was", 4, x.value(0, 3, 1));
        CHECK.same("what it is", 1, x.at(0, 3));
        CHECK.same("the same again", 1, x.value(0, 3, 1));
        CHECK.same("acts", 3, x.told(6));
        CHECK.same("no other value", 4, x.at(0, 2));
        CHECK.same("no other polynomial", 3, x.at(1, 3));
        x.value(1, 0, 4);
        CHECK.same("coefficients go along: x and 4 times (1-x^4)", 1, x.coefficient(1, 4));
        CHECK.refuses("no polynomial", NO_SUCH, () -> x.value(2, 0, 0));
        CHECK.refuses("no polynomial", NO_SUCH, () -> x.value(-1, 0, 0));
        CHECK.refuses("no point", NO_SUCH, () -> x.value(0, 5, 0));
        CHECK.refuses("no point", NO_SUCH, () -> x.value(0, -1, 0));
        CHECK.refuses("no value", NO_SUCH, () -> x.value(0, 0, 5));
        CHECK.refuses("no value", NO_SUCH, () -> x.value(0, 0, -1));
        CHECK.same("refusals", 6, x.status(0));
    }

    private static void promise6() {
        CHECK.begin("promise 6");
        FieldPerms x = Check.told("field 7 1;poly x^2;poly x+1;");
        CHECK.same("its number", 2, x.after(0, 1));
        CHECK.same("its number", 3, x.after(1, 0));
        CHECK.same("(x+1)^2 at 2", 2, x.at(2, 2));
        CHECK.same("x^2+1 at 2", 5, x.at(3, 2));
        CHECK.refuses("no one", NO_SUCH, () -> x.after(4, 0));
        CHECK.refuses("no other", NO_SUCH, () -> x.after(0, -1));
        x.after(2, 2);
        CHECK.same("((x+1)^2+1)^2 at 2", 2, x.at(4, 2));
        x.after(1, 1);
        CHECK.refuses("there are six", STATE, () -> x.after(0, 0));
        CHECK.refuses("no one among six", NO_SUCH, () -> x.after(6, 0));
    }

    private static void promise7() {
        CHECK.begin("promise 7");
        FieldPerms x = Check.told("field 7 1;poly x^2;poly x+1;");
        CHECK.same("0 times", 2, x.again(0, 0));
        CHECK.same("is x", 3, x.at(2, 3));
        x.again(0, 1);
        CHECK.same("once", 2, x.at(3, 3));
        x.again(0, 3);
        CHECK.same("three times, x^8", 2, x.at(4, 3));
        x.again(1, 1000000000);
        CHECK.same("a thousand million times, x+6", 2, x.at(5, 3));
        CHECK.refuses("there are six", STATE, () -> x.again(0, 1));
        CHECK.refuses("n first", ARGUMENT, () -> x.again(0, 1000000001));
        CHECK.refuses("n first", ARGUMENT, () -> x.again(0, -1));
        CHECK.refuses("n first", ARGUMENT, () -> x.again(0, Integer.MIN_VALUE));
        CHECK.refuses("no such polynomial first", NO_SUCH, () -> x.again(6, -1));
        FieldPerms y = Check.told("field 61 1;poly 2*x+1;");
        y.again(0, 60);
        CHECK.same("2 to the 60 is 1", 17, y.at(1, 17));
        y.again(0, 59);
        y.after(2, 0);
        CHECK.same("59 times and once", 17, y.at(3, 17));
    }

    private static void promise8() {
        CHECK.begin("promise 8");
        FieldPerms x = Check.told("field 7 1;poly 2*x+3;poly x^2;poly x^5;");
        CHECK.same("its number", 3, x.back(0));
        for (int s = 0; s < 7; s++) {
            CHECK.same("there and back", s, x.at(3, x.at(0, s)));
        }
        CHECK.same("4x+2 at 1", 6, x.at(3, 1));
        CHECK.refuses("does not permute", STATE, () -> x.back(1));
        CHECK.refuses("no such", NO_SUCH, () -> x.back(4));
        x.back(2);
        CHECK.same("of x^5 it is x^5", 5, x.degree(4));
        x.back(4);
        CHECK.refuses("there are six", STATE, () -> x.back(0));
        CHECK.refuses("both", STATE, () -> x.back(1));
        CHECK.same("counted once each", 3, x.status(2));
    }

    private static void promise9() {
        CHECK.begin("promise 9");
        FieldPerms x = Check.told("field 7 1;poly 1;poly 2;poly 3;poly 4;");
        CHECK.same("how many", 3, x.drop(1));
        CHECK.same("ahead of it", 1, x.at(0, 0));
        CHECK.same("behind it", 3, x.at(1, 0));
        CHECK.same("behind it", 4, x.at(2, 0));
        CHECK.refuses("gone", NO_SUCH, () -> x.at(3, 0));
        CHECK.same("the last", 2, x.drop(2));
        CHECK.same("the first", 1, x.drop(0));
        CHECK.same("what is left", 3, x.at(0, 5));
        CHECK.same("none", 0, x.drop(0));
        CHECK.refuses("none such", NO_SUCH, () -> x.drop(0));
        CHECK.refuses("none such", NO_SUCH, () -> x.drop(-1));
        CHECK.same("acts", 5, x.told(6));
    }

    private static void promise10() {
        CHECK.begin("promise 10");
        FieldPerms x = Check.told("field 7 1;poly x;poly x^2;");
        long told = x.print();
        x.value(0, 0, 3);
        long valued = x.print();
        x.after(0, 1);
        long joined = x.print();
        x.again(1, 5);
        long repeated = x.print();
        x.drop(0);
        Check.tell(x, "field 2 3;poly x^3;");
        CHECK.same("five acts and the first", 6, x.told(6));
        CHECK.same("text", 5, x.undo());
        CHECK.same("q", 7, x.told(0));
        CHECK.same("modulus", 0, x.told(3));
        CHECK.same("sums", 2, x.points(4, 5, 0));
        CHECK.same("drop", 4, x.undo());
        CHECK.same("as it was", repeated, x.print());
        CHECK.same("again", 3, x.undo());
        CHECK.same("as it was", joined, x.print());
        CHECK.same("after", 2, x.undo());
        CHECK.same("as it was", valued, x.print());
        CHECK.same("value", 1, x.undo());
        CHECK.same("as it was", told, x.print());
        CHECK.same("the first text", 0, x.undo());
        CHECK.same("the first field", 2, x.told(0));
        CHECK.same("no polynomials", 0, x.told(4));
        CHECK.same("none left", -1, x.undo());
        FieldPerms y = Check.told("field 7 1;poly x+1;");
        y.back(0);
        CHECK.same("back", 1, y.undo());
        CHECK.same("polynomials", 1, y.told(4));
        Check.tell(y, "field 3");
        y.at(0, 0);
        CHECK.same("a fault and a question are no acts", 1, y.told(6));
    }

    private static void promise10Window() {
        CHECK.begin("promise 10, the latest 8");
        FieldPerms x = Check.told("field 61 1;poly 0;");
        for (int i = 1; i <= 20; i++) {
            x.value(0, 0, i);
            CHECK.same("acts that can be taken back", Math.min(i + 1, 8), x.told(6));
        }
        for (int i = 7; i >= 3; i--) {
            CHECK.same("undo", i, x.undo());
            CHECK.same("value", 12 + i, x.at(0, 0));
        }
        x.value(0, 0, 50);
        CHECK.same("a new act", 4, x.told(6));
        CHECK.same("is the latest", 3, x.undo());
        CHECK.same("value", 15, x.at(0, 0));
        for (int i = 2; i >= 0; i--) {
            CHECK.same("undo", i, x.undo());
        }
        CHECK.same("value", 12, x.at(0, 0));
        CHECK.same("none left", -1, x.undo());
        CHECK.same("value", 12, x.at(0, 0));
    }

    private static void promise11() {
        CHECK.begin("promise 11");
        FieldPerms x = Check.told("field 3 3;poly x;poly 1;");
        x.feed(0, 0, 0, 0, 0);
        int[] want = {27, 3, 3, 7, 2, 20, 1};
        for (int i = 0; i < want.length; i++) {
            CHECK.same("told " + i, want[i], x.told(i));
        }
        CHECK.refuses("told 7", ARGUMENT, () -> x.told(7));
        CHECK.refuses("told -1", ARGUMENT, () -> x.told(-1));
    }

    private static void promise12() {
        CHECK.begin("promise 12");
        FieldPerms x = Check.told("field 3 2;");
        // y times y is less 1, so 2: 3 is y, 4 is y and 1, 8 is 2y and 2
        CHECK.same("y and 2y", 0, x.points(3, 6, 0));
        CHECK.same("(y+1) and (2y+2)", 0, x.points(4, 8, 0));
        CHECK.same("(y+2) and (y+2)", 7, x.points(5, 5, 0));
        CHECK.same("1 less y", 7, x.points(1, 3, 1));
        CHECK.same("y less 1", 5, x.points(3, 1, 1));
        CHECK.same("y times y", 2, x.points(3, 3, 2));
        CHECK.same("(y+1) times (y+1)", 6, x.points(4, 4, 2));
        CHECK.same("1 by y", 6, x.points(1, 3, 3));
        CHECK.same("0 by y", 0, x.points(0, 3, 3));
        CHECK.same("y by 0", -1, x.points(3, 0, 3));
        CHECK.same("0 by 0", -1, x.points(0, 0, 3));
        CHECK.refuses("no first", NO_SUCH, () -> x.points(9, 0, 4));
        CHECK.refuses("no second", NO_SUCH, () -> x.points(0, -1, 0));
        CHECK.refuses("no what", ARGUMENT, () -> x.points(0, 0, 4));
        CHECK.refuses("no what", ARGUMENT, () -> x.points(0, 0, -1));
        FieldPerms y = Check.told("field 2 6;");
        // y to the 6 is y and 1
        CHECK.same("y^5 times y", 3, y.points(32, 2, 2));
        CHECK.same("y and 1 by y^5", 2, y.points(3, 32, 3));
    }

    private static void promise13() {
        CHECK.begin("promise 13");
        FieldPerms x = Check.told("field 2 3;poly x^2+1;");
        // y cubed is y and 1, so y^4 is y^2 and y
        CHECK.same("at y^2", 7, x.at(0, 4));
        CHECK.same("at 0", 1, x.at(0, 0));
        CHECK.refuses("no polynomial", NO_SUCH, () -> x.at(1, 0));
        CHECK.refuses("no polynomial", NO_SUCH, () -> x.at(-1, 0));
        CHECK.refuses("no point", NO_SUCH, () -> x.at(0, 8));
        CHECK.refuses("no point", NO_SUCH, () -> x.at(0, -1));
    }

    private static void promise14() {
        CHECK.begin("promise 14");
        FieldPerms x = Check.told("field 5 1;poly 3*x^4+2*x+1;poly x^5;poly x^6+x^8;poly 4;");
        int[][] want = {{1, 2, 0, 0, 3}, {0, 1, 0, 0, 0}, {0, 0, 1, 0, 1}, {4, 0, 0, 0, 0}};
        for (int f = 0; f < want.length; f++) {
            for (int k = 0; k < 5; k++) {
                CHECK.same("of f" + f + " for " + k, want[f][k], x.coefficient(f, k));
            }
        }
        CHECK.refuses("no polynomial", NO_SUCH, () -> x.coefficient(4, 9));
        CHECK.refuses("no power", ARGUMENT, () -> x.coefficient(0, 5));
        CHECK.refuses("no power", ARGUMENT, () -> x.coefficient(0, -1));
        FieldPerms y = Check.told("field 2 6;poly 5*x^63+63*x^62+x^33+7;");
        CHECK.same("of x^63", 5, y.coefficient(0, 63));
        CHECK.same("of x^62", 63, y.coefficient(0, 62));
        CHECK.same("of x^33", 1, y.coefficient(0, 33));
        CHECK.same("of x^32", 0, y.coefficient(0, 32));
        CHECK.same("of 1", 7, y.coefficient(0, 0));
    }

    private static void promise15() {
        CHECK.begin("promise 15");
        FieldPerms x = Check.told("field 3 2;poly 0;poly 2;poly x;poly x^8+x;poly x^9;poly x^12-x^4;");
        int[] want = {-1, 0, 1, 8, 1, -1};
        for (int f = 0; f < want.length; f++) {
            CHECK.same("of f" + f, want[f], x.degree(f));
        }
        CHECK.refuses("no polynomial", NO_SUCH, () -> x.degree(6));
        CHECK.refuses("no polynomial", NO_SUCH, () -> x.degree(-1));
        FieldPerms y = Check.told("field 2 1;poly x;poly x+1;poly 1;poly x^2-x;");
        int[] wantOfTwo = {1, 1, 0, -1};
        for (int f = 0; f < wantOfTwo.length; f++) {
            CHECK.same("q 2, of f" + f, wantOfTwo[f], y.degree(f));
        }
    }

    private static void promise16And17() {
        CHECK.begin("promises 16, 17");
        FieldPerms x = Check.told("field 7 1;poly x^2;poly 3;poly x^3;");
        int[] want = {1, 2, 2, 0, 2, 0, 0};
        for (int v = 0; v < 7; v++) {
            CHECK.same("squares that are " + v, want[v], x.taken(0, v));
        }
        CHECK.same("all are 3", 7, x.taken(1, 3));
        CHECK.same("image of x^2", 4, x.image(0));
        CHECK.same("image of 3", 1, x.image(1));
        CHECK.same("image of x^3", 3, x.image(2));
        CHECK.refuses("no polynomial", NO_SUCH, () -> x.taken(3, 0));
        CHECK.refuses("no value", NO_SUCH, () -> x.taken(0, 7));
        CHECK.refuses("no value", NO_SUCH, () -> x.taken(0, -1));
        CHECK.refuses("no polynomial", NO_SUCH, () -> x.image(3));
        FieldPerms y = Check.told("field 2 6;poly x^3;poly x+1;");
        CHECK.same("a third of 63, and 0", 22, y.image(0));
        CHECK.same("all 64", 64, y.image(1));
    }

    private static void promise18() {
        CHECK.begin("promise 18");
        FieldPerms x = Check.told("field 2 6;poly x^2;poly x^3;poly x^5+1;poly 0;poly 63*x;");
        int[] want = {1, 0, 1, 0, 1};
        for (int f = 0; f < want.length; f++) {
            CHECK.same("f" + f, want[f], x.permutes(f));
        }
        CHECK.refuses("no polynomial", NO_SUCH, () -> x.permutes(5));
        CHECK.refuses("no polynomial", NO_SUCH, () -> x.permutes(-1));
    }

    private static void promise19() {
        CHECK.begin("promise 19");
        FieldPerms x = Check.told("field 7 1;poly x^5;poly x^2;poly x^3;poly x^2-1;poly x^6-1+x;poly 1;");
        CHECK.same("x^5 permutes", -1, x.powers(0));
        CHECK.same("x^2, its 3rd power has degree 6", 3, x.powers(1));
        CHECK.same("x^3, its 2nd", 2, x.powers(2));
        CHECK.same("two roots", 0, x.powers(3));
        CHECK.same("no root", 0, x.powers(5));
        CHECK.refuses("no polynomial", NO_SUCH, () -> x.powers(6));
        FieldPerms y = Check.told("field 2 2;poly x+1;poly x^3;poly x;");
        CHECK.same("q 4: x^3 at once", 1, y.powers(1));
        CHECK.same("q 4: x+1", -1, y.powers(0));
        y.value(2, 1, 2);
        CHECK.same("q 4: 0, 2, 2, 3 sum up to 3", 1, y.powers(2));
        FieldPerms z = Check.told("field 2 1;poly x;poly 0;poly 1;poly x+1;");
        int[] want = {-1, 0, 0, -1};
        for (int f = 0; f < want.length; f++) {
            CHECK.same("q 2: f" + f, want[f], z.powers(f));
        }
        FieldPerms w = Check.told("field 3 2;poly x^4;");
        CHECK.same("q 9: x^4, its 2nd has degree 8", 2, w.powers(0));
    }

    private static void promise20() {
        CHECK.begin("promise 20");
        FieldPerms x = Check.told("field 7 1;poly x+1;poly 2*x;poly x^2;poly x;");
        CHECK.same("x+1: of 7", 1, x.cycles(0, 7));
        CHECK.same("x+1: all", 1, x.cycles(0, 0));
        CHECK.same("2x: of 3", 2, x.cycles(1, 3));
        CHECK.same("2x: of 1", 1, x.cycles(1, 1));
        CHECK.same("2x: of 2", 0, x.cycles(1, 2));
        CHECK.same("2x: all", 3, x.cycles(1, 0));
        CHECK.same("x: of 1", 7, x.cycles(3, 1));
        CHECK.same("more than q", 0, x.cycles(0, 64));
        CHECK.refuses("no polynomial", NO_SUCH, () -> x.cycles(4, 65));
        CHECK.refuses("no n", ARGUMENT, () -> x.cycles(2, 65));
        CHECK.refuses("no n", ARGUMENT, () -> x.cycles(0, -1));
        CHECK.refuses("does not permute", STATE, () -> x.cycles(2, 1));
        FieldPerms y = Check.told("field 2 6;poly x+1;");
        for (int s = 0; s < 64; s++) {
            y.value(0, s, (s + 1) % 64);
        }
        CHECK.same("one cycle of 64", 1, y.cycles(0, 64));
        CHECK.same("its order", 64, y.order(0));
        y.again(0, 64);
        CHECK.same("64 times it is x", 64, y.cycles(1, 1));
        CHECK.same("without a cycle of 64", 0, y.cycles(1, 64));
        CHECK.same("the order of x", 1, y.order(1));
    }

    private static void promise21() {
        CHECK.begin("promise 21");
        FieldPerms x = Check.told("field 7 1;poly x+1;poly 3*x;poly x^2;poly x;");
        int[] want = {7, 6, 0, 1};
        for (int f = 0; f < want.length; f++) {
            if (f != 2) {
                CHECK.same("f" + f, want[f], x.order(f));
            }
        }
        CHECK.refuses("does not permute", STATE, () -> x.order(2));
        CHECK.refuses("no polynomial", NO_SUCH, () -> x.order(4));
        // rounds of 2, 3, 5, 7, 11 and 13 points, 41 in all, and 16 more points in one round
        FieldPerms y = Check.told("field 59 1;poly x;");
        int from = 0;
        for (int length : new int[] {3, 5, 7, 11, 13, 16}) {
            for (int i = 0; i < length; i++) {
                y.value(0, from + i, from + (i + 1) % length);
            }
            from += length;
        }
        CHECK.same("the least common multiple", 3 * 5 * 7 * 11 * 13 * 16, y.order(0));
    }

    private static void promise22() {
        CHECK.begin("promise 22");
        FieldPerms x = Check.told("field 7 1;poly x+1;poly 3*x;poly x^2;poly x;");
        CHECK.same("a round of 7", 1, x.even(0));
        CHECK.same("a round of 6", 0, x.even(1));
        CHECK.same("x", 1, x.even(3));
        CHECK.refuses("does not permute", STATE, () -> x.even(2));
        CHECK.refuses("no polynomial", NO_SUCH, () -> x.even(4));
        FieldPerms y = Check.told("field 2 1;poly x+1;poly x;");
        CHECK.same("two that change places", 0, y.even(0));
        CHECK.same("x", 1, y.even(1));
    }

    private static void promise23And24() {
        CHECK.begin("promises 23, 24");
        FieldPerms x = Check.told("field 7 1;poly 2*x;poly x^2;");
        CHECK.same("of 0", 1, x.orbit(0));
        CHECK.same("of 1, x^2 does not permute", 3, x.orbit(1));
        CHECK.same("of 3", 3, x.orbit(3));
        CHECK.same("orbits", 3, x.orbits());
        x.again(0, 2);
        CHECK.same("2x twice adds nothing", 3, x.orbits());
        Check.tell(x, "field 7 1;poly 2*x;poly 0-x;");
        CHECK.same("two of them together", 6, x.orbit(1));
        CHECK.same("orbits", 2, x.orbits());
        Check.tell(x, "field 7 1;poly 0-x;poly 3-x;");
        CHECK.same("x and 3, by two", 7, x.orbit(5));
        CHECK.same("orbits", 1, x.orbits());
        Check.tell(x, "field 7 1;poly 0;");
        CHECK.same("none permutes", 1, x.orbit(6));
        CHECK.same("orbits", 7, x.orbits());
        CHECK.refuses("no point", NO_SUCH, () -> x.orbit(7));
        CHECK.refuses("no point", NO_SUCH, () -> x.orbit(-1));
        FieldPerms y = Check.told("field 2 6;poly x+1;poly x+2;poly x+4;poly x+8;poly x+16;");
        CHECK.same("of 63", 32, y.orbit(63));
        CHECK.same("orbits", 2, y.orbits());
    }

    private static void promise25() {
        CHECK.begin("promise 25");
        FieldPerms x = Check.told("field 7 1;poly x^2;poly 3*x+1;poly x^3;poly 0;");
        CHECK.same("of x^2", 1, x.spread(0));
        CHECK.same("of 3x+1", 7, x.spread(1));
        CHECK.same("of x^3", 2, x.spread(2));
        CHECK.same("of 0", 7, x.spread(3));
        CHECK.refuses("no polynomial", NO_SUCH, () -> x.spread(4));
        FieldPerms y = Check.told("field 2 3;poly x^3;poly x^2;");
        CHECK.same("q 8: of x^3", 2, y.spread(0));
        CHECK.same("q 8: of x^2", 8, y.spread(1));
        FieldPerms z = Check.told("field 2 1;poly x;poly 1;");
        CHECK.same("q 2: of x", 2, z.spread(0));
        CHECK.same("q 2: of 1", 2, z.spread(1));
    }

    /** x to the n permutes just if n and q less 1 have no common divisor. */
    private static void promise26() {
        CHECK.begin("promise 26");
        CHECK.same("q 2", 2, new FieldPerms().monomials());
        CHECK.same("q 7", 1 << 1 | 1 << 5, Check.told("field 7 1;").monomials());
        CHECK.same("q 3", 1 << 1, Check.told("field 3 1;").monomials());
        long want = 0;
        for (int n = 1; n <= 63; n++) {
            if (n % 3 != 0 && n % 7 != 0) {
                want |= 1L << n;
            }
        }
        CHECK.same("q 64", want, Check.told("field 2 6;").monomials());
        CHECK.same("q 32", 0x7ffffffeL, Check.told("field 2 5;").monomials());
    }

    /** By a point that is not 0 the n-th permutes just if n and q times q less 1 have no common divisor. */
    private static void promise27() {
        CHECK.begin("promise 27");
        FieldPerms x = Check.told("field 7 1;");
        long want = 0;
        long wantBy0 = 0;
        for (int n = 1; n <= 63; n++) {
            if (n % 2 != 0 && n % 3 != 0) {
                want |= 1L << n;
                wantBy0 |= 1L << n;
            }
        }
        for (int a = 1; a < 7; a++) {
            CHECK.same("q 7 by " + a, want, x.dicksons(a));
        }
        CHECK.same("q 7 by 0", wantBy0, x.dicksons(0));
        FieldPerms y = Check.told("field 2 6;");
        want = 0;
        wantBy0 = 0;
        for (int n = 1; n <= 63; n++) {
            want |= n % 3 != 0 && n % 5 != 0 && n % 7 != 0 && n % 13 != 0 ? 1L << n : 0;
            wantBy0 |= n % 3 != 0 && n % 7 != 0 ? 1L << n : 0;
        }
        CHECK.same("q 64 by 63", want, y.dicksons(63));
        CHECK.same("q 64 by 0", wantBy0, y.dicksons(0));
        CHECK.refuses("no point", NO_SUCH, () -> x.dicksons(7));
        CHECK.refuses("no point", NO_SUCH, () -> x.dicksons(-1));
    }

    private static void promise28() {
        CHECK.begin("promise 28");
        FieldPerms x = Check.told("field 7 1;");
        CHECK.same("x^7 and ax, for all a but 6", 6, x.binomials(7));
        CHECK.same("x^13 and ax too", 6, x.binomials(13));
        CHECK.same("x^2 and ax", 0, x.binomials(2));
        CHECK.same("x^5 alone", 1, x.binomials(5));
        // x^4+3x over 7 is one of the known ones, and so is x^4-3x
        CHECK.same("x^4 and 3x or 4x", 2, x.binomials(4));
        FieldPerms y = Check.told("field 2 6;");
        CHECK.same("x^2 and ax: a is 0", 1, y.binomials(2));
        // x^4 and ax has a root other than 0 just if a is a cube that is not 0: 21 such
        CHECK.same("x^4 and ax", 43, y.binomials(4));
        CHECK.refuses("no n", ARGUMENT, () -> x.binomials(1));
        CHECK.refuses("no n", ARGUMENT, () -> x.binomials(64));
        CHECK.refuses("no n", ARGUMENT, () -> x.binomials(-5));
        FieldPerms z = new FieldPerms();
        CHECK.same("q 2, to the 63", 1, z.binomials(63));
    }

    private static void promise29() {
        CHECK.begin("promise 29");
        FieldPerms x = Check.told("field 3 1;poly x;poly 2;");
        long want = 0;
        for (int v : new int[] {0, 1, 2, 2, 2, 2}) {
            want = 31 * want + v;
        }
        CHECK.same("print", want, x.print());
        x.drop(0);
        x.drop(0);
        CHECK.same("of none", 0, x.print());
        FieldPerms y = Check.told("field 61 1;poly x;poly x+1;");
        want = 0;
        for (int s = 0; s < 122; s++) {
            want = 31 * want + (s < 61 ? s : (s - 60) % 61);
        }
        CHECK.same("a long that goes round", want, y.print());
    }

    private static void promise30() {
        CHECK.begin("promise 30");
        FieldPerms x = Check.told("field 7 1;poly x^2;" + SIX.substring(0, 35));
        CHECK.refuses("no such", NO_SUCH, () -> x.at(6, 0));
        CHECK.refuses("no such", NO_SUCH, () -> x.dicksons(7));
        CHECK.refuses("no such, not two", NO_SUCH, () -> x.value(9, 9, 9));
        CHECK.refuses("argument", ARGUMENT, () -> x.told(9));
        CHECK.refuses("argument", ARGUMENT, () -> x.text(1));
        CHECK.refuses("state", STATE, () -> x.order(0));
        CHECK.same("0", 3, x.status(0));
        CHECK.same("1", 2, x.status(1));
        CHECK.same("2", 1, x.status(2));
        CHECK.same("3", -1, x.status(3));
        CHECK.same("-1", -1, x.status(-1));
        CHECK.same("the least int", -1, x.status(Integer.MIN_VALUE));
        Check.tell(x, "fault");
        x.undo();
        x.undo();
        CHECK.same("faults don't count, nor is it taken back", 2, x.status(1));
        CHECK.same("neither", 3, x.status(0));
    }

    private static void throwingChangesNothing() {
        CHECK.begin("==== 3");
        FieldPerms x = Check.told("field 7 1;poly x^2;" + SIX.substring(0, 35));
        x.value(0, 0, 1);
        long before = x.print();
        Check.thrownBy(() -> x.value(0, 0, 7));
        Check.thrownBy(() -> x.after(0, 0));
        Check.thrownBy(() -> x.again(0, -1));
        Check.thrownBy(() -> x.back(0));
        Check.thrownBy(() -> x.drop(6));
        Check.thrownBy(() -> x.text(1));
        Check.thrownBy(() -> x.cycles(0, 0));
        CHECK.same("print", before, x.print());
        CHECK.same("polynomials", 6, x.told(4));
        CHECK.same("acts", 2, x.told(6));
    }
}
