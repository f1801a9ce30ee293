import java.util.Arrays;
import java.util.NoSuchElementException;
import java.util.function.Supplier;

/** The edges of promises 1 and 5 to 10, and of the terms' part on acts, sentence by sentence. */
public final class ActEdgeTests {
    private static final Check CHECK = new Check();
    private static final Class<?> NO_SUCH = NoSuchElementException.class;
    private static final Class<?> ARGUMENT = IllegalArgumentException.class;
    private static final Class<?> STATE = IllegalStateException.class;
    private static final int LEAST = Integer.MIN_VALUE;
    private static final int GREATEST = Integer.MAX_VALUE;
    private static final int MOST_TIMES = 1000000000;

    public static void main(String[] args) {
        aNewObject();
        callsAtMost();
        valueWas();
        valueRefused();
        afterNumbers();
        afterOfItself();
        afterRefused();
        againTimes();
        againNumbers();
        againRefused();
        backInverts();
        backNumbers();
        backRefused();
        dropNumbers();
        dropToNone();
        dropRefused();
        undoNone();
        undoCounts();
        theActs();
        theLatestEight();
        theLatestNotYet();
        fieldsTakenBack();
        askedNothingChanges();
        askedOneBehindTheOther();
        theFirstTold();
        throwingChangesNothing();
        CHECK.hadSentences(1, 1);
        CHECK.hadSentences(5, 10);
        CHECK.end("ActEdgeTests");
    }

    /** Two polynomials over 5 points, the second of which does not permute; two acts, bytes on the tape. */
    private static FieldPerms two() {
        FieldPerms x = Check.told("field 5 1;poly x+1;poly x;");
        x.value(1, 4, 0);
        x.feed(1, 2, 3, 4, 5);
        return x;
    }

    /** Six polynomials over 64 points, the third of which does not permute. */
    private static FieldPerms six() {
        return Check.told("field 2 6;poly x;poly x+63;poly x^3;poly x^2;poly 63*x;poly x^62;");
    }

    private static void aNewObject() {
        CHECK.sentence(1, "makes an object in the state that the terms give");
        CHECK.holds("At first the FIELD is that of ..", Document.says("Terms",
                "At first the FIELD is that of P 2, M 1, without POLYNOMIALS."));
        FieldPerms x = new FieldPerms();
        int[] want = {2, 2, 1, 0, 0, 0, 0};
        for (int what = 0; what < want.length; what++) {
            CHECK.same("told " + what, want[what], x.told(what));
        }
        CHECK.same("fault", -1, x.fault());
        CHECK.same("undo", -1, x.undo());
        CHECK.same("print", 0, x.print());
        CHECK.same("orbits", 2, x.orbits());
        CHECK.same("orbit", 1, x.orbit(1));
        CHECK.same("1 and 1", 0, x.points(1, 1, 0));
        CHECK.same("1 times 1", 1, x.points(1, 1, 2));
        CHECK.same("statuses", "[0, 0, 0]", Arrays.toString(Check.statuses(x)));
        CHECK.refuses("no polynomial", NO_SUCH, () -> x.at(0, 0));
        CHECK.refuses("no third point", NO_SUCH, () -> x.points(0, 2, 0));
        FieldPerms other = six();
        CHECK.same("another object's polynomials are its own", 0, x.told(4));
        CHECK.same("another object's acts are its own", 0, x.told(6));
        CHECK.same("another object's refusals are its own", 0, other.status(0));
        CHECK.same("NONE", -1, FieldPerms.NONE);
    }

    private static void callsAtMost() {
        CHECK.sentence("What it is", "An object is used for at most 512 calls after it has been made");
        FieldPerms x = Check.told("field 61 1;poly x;");
        // two calls so far; 500 acts, then ten calls more
        for (int i = 1; i <= 500; i++) {
            x.value(0, 0, i % 61);
        }
        for (int i = 1; i <= 8; i++) {
            CHECK.same("undo", 8 - i, x.undo());
        }
        CHECK.same("the 511th call", -1, x.undo());
        CHECK.same("the 512th call", 492 % 61, x.at(0, 0));
    }

    private static void valueWas() {
        CHECK.sentence(5, "A POLYNOMIAL has another VALUE at a POINT: what it was");
        for (String field : new String[] {"2 1", "3 1", "61 1", "2 6"}) {
            FieldPerms x = Check.told("field " + field + ";poly x;poly 0;");
            int last = x.told(0) - 1;
            CHECK.same(field + ": the last at the last", last, x.value(0, last, 0));
            CHECK.same(field + ": the first at the first", 0, x.value(0, 0, last));
            CHECK.same(field + ": what it is now", last, x.at(0, 0));
            CHECK.same(field + ": what it is now", 0, x.at(0, last));
            CHECK.same(field + ": the same value anew", last, x.value(0, 0, last));
            CHECK.same(field + ": it is an act too", 4, x.told(6));
            CHECK.same(field + ": no other polynomial", last + 1, x.taken(1, 0));
            CHECK.same(field + ": the last polynomial", 0, x.value(1, last, last));
            CHECK.same(field + ": just one value of it", 1, x.taken(1, last));
        }
        FieldPerms x = six();
        CHECK.same("the sixth", 0, x.value(5, 0, 63));
        CHECK.same("no longer permutes", 0, x.permutes(5));
        CHECK.same("the fifth stays", 1, x.permutes(4));
    }

    private static void valueRefused() {
        CHECK.sentence(5, "NoSuchElementException: no such POLYNOMIAL, POINT (so below)");
        CHECK.refused("none there yet", FieldPerms::new, NO_SUCH, x -> x.value(0, 0, 0));
        for (int bad : new int[] {-1, 2, 5, 6, LEAST, GREATEST}) {
            CHECK.refused("polynomial " + bad, ActEdgeTests::two, NO_SUCH, x -> x.value(bad, 0, 0));
        }
        for (int bad : new int[] {-1, 5, 63, 64, LEAST, GREATEST}) {
            CHECK.refused("point " + bad, ActEdgeTests::two, NO_SUCH, x -> x.value(0, bad, 0));
            CHECK.refused("value " + bad, ActEdgeTests::two, NO_SUCH, x -> x.value(0, 0, bad));
            CHECK.refused("all three " + bad, ActEdgeTests::two, NO_SUCH, x -> x.value(bad, bad, bad));
        }
        CHECK.refused("polynomial 6 of six", ActEdgeTests::six, NO_SUCH, x -> x.value(6, 0, 0));
        CHECK.refused("point 64 of 64", ActEdgeTests::six, NO_SUCH, x -> x.value(0, 64, 0));
        CHECK.refused("value 64 of 64", ActEdgeTests::six, NO_SUCH, x -> x.value(0, 0, 64));
    }

    private static void afterNumbers() {
        CHECK.sentence(6, "A new POLYNOMIAL: the one of the other one (the one behind the other): its number");
        FieldPerms x = Check.told("field 7 1;poly 2*x+1;");
        for (int number = 1; number <= 5; number++) {
            CHECK.same("its number", number, x.after(0, number - 1));
            CHECK.same("how many", number + 1, x.told(4));
        }
        // 2x+1 behind itself: from 0 on 1, 3, 0 again
        int[] want = {1, 3, 0, 1, 3, 0};
        for (int f = 0; f < 6; f++) {
            CHECK.same("f" + f + " at 0", want[f], x.at(f, 0));
        }
        FieldPerms y = Check.told("field 7 1;poly x^2;poly x+1;");
        y.after(0, 1);
        y.after(1, 0);
        for (int s = 0; s < 7; s++) {
            CHECK.same("(x+1)^2 at " + s, (s + 1) * (s + 1) % 7, y.at(2, s));
            CHECK.same("x^2+1 at " + s, (s * s + 1) % 7, y.at(3, s));
        }
    }

    private static void afterOfItself() {
        CHECK.sentence(6, "the one of the other one");
        FieldPerms x = Check.told("field 2 6;poly x;poly 63;poly x^2;");
        CHECK.same("of x itself", 3, x.after(0, 0));
        CHECK.same("is x", 64, x.cycles(3, 1));
        CHECK.same("of 63 itself", 4, x.after(1, 1));
        CHECK.same("is 63", 64, x.taken(4, 63));
        CHECK.same("63 squared, told at all points", 5, x.after(2, 1));
        CHECK.same("63 squared", x.points(63, 63, 2), x.at(5, 0));
        CHECK.same("the ones ahead stay", 64, x.taken(1, 63));
    }

    private static void afterRefused() {
        CHECK.sentence(6, "IllegalStateException: there are six (so below)");
        CHECK.refused("none there yet", FieldPerms::new, NO_SUCH, x -> x.after(0, 0));
        CHECK.refused("there are six", ActEdgeTests::six, STATE, x -> x.after(0, 0));
        CHECK.refused("there are six", ActEdgeTests::six, STATE, x -> x.after(5, 5));
        for (int bad : new int[] {-1, 6, LEAST, GREATEST}) {
            CHECK.refused("no one " + bad + " of six", ActEdgeTests::six, NO_SUCH, x -> x.after(bad, 0));
            CHECK.refused("no other " + bad + " of six", ActEdgeTests::six, NO_SUCH, x -> x.after(0, bad));
        }
        for (int bad : new int[] {-1, 2, 5, LEAST, GREATEST}) {
            CHECK.refused("no one " + bad, ActEdgeTests::two, NO_SUCH, x -> x.after(bad, 0));
            CHECK.refused("no other " + bad, ActEdgeTests::two, NO_SUCH, x -> x.after(0, bad));
            CHECK.refused("neither " + bad, ActEdgeTests::two, NO_SUCH, x -> x.after(bad, bad));
        }
        FieldPerms x = six();
        x.drop(2);
        CHECK.same("one less: there is room", 5, x.after(1, 1));
        CHECK.refuses("six again", STATE, () -> x.after(1, 1));
        x.undo();
        CHECK.same("taken back: there is room", 5, x.after(1, 1));
    }

    private static void againTimes() {
        CHECK.sentence(7, "one n times behind itself (0 to 1,000,000,000; 0: x)");
        String[] texts = {"field 2 1;poly x+1;", "field 7 1;poly x^2;", "field 61 1;poly 2*x+1;",
            "field 2 6;poly x^5+x;", "field 5 2;poly 7;", "field 3 3;poly x^25;"};
        int[] times = {0, 1, 2, 3, 63, 64, 65, 1 << 29, 999999999, MOST_TIMES};
        for (String text : texts) {
            for (int n : times) {
                FieldPerms x = Check.told(text);
                int[] row = rowOf(x, 0);
                CHECK.same(text + " " + n + " times", 1, x.again(0, n));
                for (int s = 0; s < row.length; s++) {
                    CHECK.same(text + " " + n + " times, at " + s, walked(row, s, n), x.at(1, s));
                }
            }
        }
    }

    private static int[] rowOf(FieldPerms x, int poly) {
        int[] row = new int[x.told(0)];
        for (int s = 0; s < row.length; s++) {
            row[s] = x.at(poly, s);
        }
        return row;
    }

    /** Where n steps lead; once a point comes again, whole rounds are left out. */
    private static int walked(int[] row, int from, int n) {
        int point = from;
        int[] metAt = new int[row.length];
        for (int step = 1; step <= n; step++) {
            if (metAt[point] > 0) {
                int left = (n - step + 1) % (step - metAt[point]);
                for (int i = 0; i < left; i++) {
                    point = row[point];
                }
                return point;
            }
            metAt[point] = step;
            point = row[point];
        }
        return point;
    }

    private static void againNumbers() {
        CHECK.sentence(7, "A new POLYNOMIAL: one n times behind itself (0 to 1,000,000,000; 0: x): its number");
        FieldPerms x = Check.told("field 7 1;poly 3;");
        for (int number = 1; number <= 5; number++) {
            CHECK.same("its number", number, x.again(number - 1, 1));
            CHECK.same("the same as the one ahead", 7, x.taken(number, 3));
        }
        x.drop(5);
        CHECK.same("0 times, of one that does not permute", 5, x.again(0, 0));
        CHECK.same("is x", 7, x.cycles(5, 1));
        CHECK.same("the one itself stays", 7, x.taken(0, 3));
    }

    private static void againRefused() {
        CHECK.sentence(7, "IllegalArgumentException: n");
        CHECK.refused("none there yet", FieldPerms::new, NO_SUCH, x -> x.again(0, 0));
        for (int bad : new int[] {-1, MOST_TIMES + 1, LEAST, GREATEST}) {
            CHECK.refused("n " + bad, ActEdgeTests::two, ARGUMENT, x -> x.again(1, bad));
            CHECK.refused("n " + bad + " ahead of six", ActEdgeTests::six, ARGUMENT, x -> x.again(0, bad));
            CHECK.refused("no polynomial ahead of n " + bad, ActEdgeTests::two, NO_SUCH, x -> x.again(2, bad));
            CHECK.refused("no polynomial ahead of all", ActEdgeTests::six, NO_SUCH, x -> x.again(6, bad));
            CHECK.refused("no polynomial " + bad, ActEdgeTests::two, NO_SUCH, x -> x.again(bad, 1));
        }
        CHECK.refused("there are six", ActEdgeTests::six, STATE, x -> x.again(0, 0));
        CHECK.refused("there are six", ActEdgeTests::six, STATE, x -> x.again(5, MOST_TIMES));
    }

    private static void backInverts() {
        CHECK.sentence(8, "the inverse of one");
        for (String text : new String[] {"field 2 1;poly x+1;", "field 2 1;poly x;", "field 61 1;poly 60*x+60;",
            "field 2 6;poly x^62;", "field 2 6;poly 63*x^32+63;", "field 7 2;poly x^5;"}) {
            FieldPerms x = Check.told(text);
            CHECK.same(text, 1, x.back(0));
            for (int s = 0; s < x.told(0); s++) {
                CHECK.same(text + " there and back from " + s, s, x.at(1, x.at(0, s)));
                CHECK.same(text + " back and there from " + s, s, x.at(0, x.at(1, s)));
            }
        }
    }

    private static void backNumbers() {
        CHECK.sentence(8, "A new POLYNOMIAL: the inverse of one: its number");
        FieldPerms x = Check.told("field 5 1;poly 2*x;");
        for (int number = 1; number <= 5; number++) {
            CHECK.same("its number", number, x.back(number - 1));
            CHECK.same("2x and 3x by turns", number % 2 == 1 ? 3 : 2, x.at(number, 1));
        }
        CHECK.same("how many", 6, x.told(4));
        // where the new one stands another one stood
        Check.tell(x, "field 5 1;poly 3-x;poly 4;");
        x.drop(1);
        CHECK.same("its number", 1, x.back(0));
        for (int s = 0; s < 5; s++) {
            CHECK.same("3-x goes back by itself, from " + s, (8 - s) % 5, x.at(1, s));
        }
    }

    private static void backRefused() {
        CHECK.sentence(8, "IllegalStateException: also it does not PERMUTE");
        CHECK.refused("none there yet", FieldPerms::new, NO_SUCH, x -> x.back(0));
        CHECK.refused("one value short", ActEdgeTests::two, STATE, x -> x.back(1));
        CHECK.refused("there are six", ActEdgeTests::six, STATE, x -> x.back(0));
        CHECK.refused("six, nor does it permute", ActEdgeTests::six, STATE, x -> x.back(2));
        for (int bad : new int[] {-1, 2, 6, LEAST, GREATEST}) {
            CHECK.refused("no polynomial " + bad, ActEdgeTests::two, NO_SUCH, x -> x.back(bad));
        }
        CHECK.refused("no seventh of six", ActEdgeTests::six, NO_SUCH, x -> x.back(6));
        FieldPerms x = two();
        x.value(1, 4, 4);
        CHECK.same("its value told anew, it permutes", 2, x.back(1));
    }

    private static void dropNumbers() {
        CHECK.sentence(9, "A POLYNOMIAL is gone (those behind it are numbered anew): how many there are");
        for (int count = 1; count <= 6; count++) {
            for (int gone = 0; gone < count; gone++) {
                FieldPerms x = new FieldPerms();
                Check.tell(x, "field 7 1;" + "poly 1;poly 2;poly 3;poly 4;poly 5;poly 6;".substring(0, 7 * count));
                CHECK.same(gone + " of " + count, count - 1, x.drop(gone));
                CHECK.same(gone + " of " + count + ", told", count - 1, x.told(4));
                for (int f = 0; f < count - 1; f++) {
                    CHECK.same(gone + " of " + count + ", f" + f, f < gone ? f + 1 : f + 2, x.at(f, 6));
                }
                int last = count - 1;
                CHECK.refuses(gone + " of " + count + ", the last number", NO_SUCH, () -> x.at(last, 0));
            }
        }
    }

    private static void dropToNone() {
        CHECK.sentence(9, "how many there are");
        FieldPerms x = six();
        for (int left = 5; left >= 0; left--) {
            CHECK.same("how many", left, x.drop(0));
        }
        CHECK.same("of none", 0, x.print());
        CHECK.same("orbits by none", 64, x.orbits());
        CHECK.refuses("none is left", NO_SUCH, () -> x.drop(0));
        CHECK.same("the field stays", 64, x.told(0));
        for (int back = 1; back <= 6; back++) {
            x.undo();
        }
        CHECK.same("all are back", six().print(), x.print());
    }

    private static void dropRefused() {
        CHECK.sentence(9, "throws NoSuchElementException");
        CHECK.refused("none there yet", FieldPerms::new, NO_SUCH, x -> x.drop(0));
        for (int bad : new int[] {-1, 2, 5, 6, LEAST, GREATEST}) {
            CHECK.refused("drop " + bad, ActEdgeTests::two, NO_SUCH, x -> x.drop(bad));
        }
        CHECK.refused("the seventh", ActEdgeTests::six, NO_SUCH, x -> x.drop(6));
    }

    private static void undoNone() {
        CHECK.sentence(10, "NONE: none could");
        FieldPerms x = new FieldPerms();
        for (int i = 0; i < 3; i++) {
            CHECK.same("nothing there yet", -1, x.undo());
        }
        CHECK.same("as at first", Check.look(new FieldPerms()), Check.look(x));
        CHECK.same("it is not counted", "[0, 0, 0]", Arrays.toString(Check.statuses(x)));
        Check.tell(x, "field 3 1;poly x;");
        CHECK.same("the one act", 0, x.undo());
        CHECK.same("no more", -1, x.undo());
        CHECK.same("q", 2, x.told(0));
        Check.tell(x, "field 3 1;poly");
        CHECK.same("a text with a fault is none", -1, x.undo());
        x.feed(1, 2, 3, 4, 5);
        CHECK.same("feed is none", -1, x.undo());
        CHECK.same("the bytes stay", 20, x.told(5));
        Check.thrownBy(() -> x.drop(0));
        CHECK.same("what was refused is none", -1, x.undo());
        CHECK.same("and stays counted", 1, x.status(0));
    }

    private static void undoCounts() {
        CHECK.sentence(10, "How many ACTS still can be taken back behind it");
        for (int acts = 1; acts <= 20; acts++) {
            FieldPerms x = Check.told("field 61 1;poly 0;");
            for (int i = 1; i < acts; i++) {
                x.value(0, 0, i);
            }
            int can = Math.min(acts, 8);
            CHECK.same(acts + " acts, told", can, x.told(6));
            for (int left = can - 1; left >= 0; left--) {
                CHECK.same(acts + " acts, undo", left, x.undo());
                CHECK.same(acts + " acts, told behind it", left, x.told(6));
            }
            CHECK.same(acts + " acts, no more", -1, x.undo());
            CHECK.same(acts + " acts, told behind it", 0, x.told(6));
        }
    }

    private static void theActs() {
        CHECK.sentence("Terms", "ACTS: text() without a FAULT, value(), after(), again(), back(), drop()");
        anAct("text", x -> Check.tell(x, "field 2 6;poly x^2;"));
        anAct("text of a field alone", x -> Check.tell(x, "field 2 1;"));
        anAct("text of what there is", x -> Check.tell(x, "field 5 1;poly x+1;poly x;"));
        anAct("value", x -> x.value(0, 0, 4));
        anAct("value as it was", x -> x.value(0, 0, 1));
        anAct("after", x -> x.after(0, 1));
        anAct("again", x -> x.again(1, 7));
        anAct("again 0 times", x -> x.again(1, 0));
        anAct("back", x -> x.back(0));
        anAct("drop", x -> x.drop(0));
        anAct("drop the last", x -> x.drop(1));
        FieldPerms x = two();
        x.undo();
        CHECK.same("undo is none itself", 1, x.told(6));
    }

    /** Done once it is one act more, and taken back all is as it was. */
    private static void anAct(String what, Check.CallOf act) {
        FieldPerms x = Check.told("field 5 1;poly x+1;poly x;");
        x.value(1, 4, 0);
        String before = Check.look(x);
        act.go(x);
        CHECK.same(what + " is one act", 3, x.told(6));
        CHECK.same(what + " is taken back", 2, x.undo());
        CHECK.same(what + " taken back", before, Check.look(x));
        act.go(x);
        x.undo();
        CHECK.samePast(what + " taken back twice", x, untouched());
    }

    private static FieldPerms untouched() {
        FieldPerms x = Check.told("field 5 1;poly x+1;poly x;");
        x.value(1, 4, 0);
        return x;
    }

    private static void theLatestEight() {
        CHECK.sentence("Terms", "undo() takes the latest one back that is not yet, of the latest 8");
        for (int acts = 0; acts <= 30; acts++) {
            FieldPerms x = new FieldPerms();
            String[] looks = new String[acts + 1];
            looks[0] = seen(x);
            for (int i = 1; i <= acts; i++) {
                actByTurns(x, i);
                looks[i] = seen(x);
            }
            int can = Math.min(acts, 8);
            for (int i = 1; i <= can; i++) {
                CHECK.same(acts + " acts, undo " + i, can - i, x.undo());
                CHECK.same(acts + " acts, behind undo " + i, looks[acts - i], seen(x));
            }
            CHECK.same(acts + " acts, the ninth", -1, x.undo());
            CHECK.same(acts + " acts, behind the ninth", looks[acts - can], seen(x));
        }
    }

    private static void actByTurns(FieldPerms x, int i) {
        switch (i % 7) {
            case 1:
                Check.tell(x, i % 2 == 0 ? "field 2 3;poly x^2+5;poly x;" : "field 7 1;poly x^5;poly 3;poly x+1;");
                break;
            case 2:
                x.again(0, i);
                break;
            case 3:
                x.value(1, 6, i % 7);
                break;
            case 4:
                x.back(0);
                break;
            case 5:
                x.after(1, 0);
                break;
            case 6:
                x.drop(i % 3);
                break;
            default:
                x.value(0, 0, 6);
        }
    }

    /** What acts change, told(6) being asked by itself. */
    private static String seen(FieldPerms x) {
        int last = x.told(0) - 1;
        return x.told(0) + " " + x.told(1) + " " + x.told(2) + " " + x.told(3) + " " + x.told(4) + " "
                + x.points(last, last, 0) + " " + x.points(last, last, 2) + " " + x.print();
    }

    private static void theLatestNotYet() {
        CHECK.sentence("Terms", "the latest one back that is not yet");
        FieldPerms x = Check.told("field 61 1;poly 0;");
        for (int i = 1; i <= 3; i++) {
            x.value(0, 0, i);
        }
        CHECK.same("the third value", 3, x.undo());
        CHECK.same("the second", 2, x.undo());
        x.value(0, 0, 10);
        CHECK.same("a new act is the latest", 2, x.undo());
        CHECK.same("behind it", 1, x.at(0, 0));
        CHECK.same("what was taken back stays so", 1, x.undo());
        CHECK.same("behind it", 0, x.at(0, 0));
        CHECK.same("the text", 0, x.undo());
        CHECK.same("none", -1, x.undo());
        for (int i = 1; i <= 3; i++) {
            Check.tell(x, "field 61 1;poly 0;");
            CHECK.same("done anew", 1, x.told(6));
            CHECK.same("taken back anew", 0, x.undo());
        }
    }

    private static void fieldsTakenBack() {
        CHECK.sentence("Terms", "undo() takes the latest one back");
        int[][] fields = Model.fields();
        for (int i = 0; i + 1 < fields.length; i++) {
            int[] first = fields[i];
            FieldPerms x = Check.told("field " + first[0] + " " + first[1] + ";poly x^3+x;");
            String before = seen(x) + " " + x.monomials() + " " + x.binomials(3) + " " + x.spread(0);
            int[] second = fields[fields.length - 1 - i];
            Check.tell(x, "field " + second[0] + " " + second[1] + ";poly 1;poly x;");
            x.undo();
            String behind = seen(x) + " " + x.monomials() + " " + x.binomials(3) + " " + x.spread(0);
            CHECK.same(first[2] + " points, " + second[2] + " and back", before, behind);
        }
    }

    private static Check.CallOf[] questions() {
        return new Check.CallOf[] {x -> x.fault(), x -> x.told(5), x -> x.points(4, 3, 3), x -> x.at(1, 4),
            x -> x.coefficient(1, 4), x -> x.degree(1), x -> x.taken(1, 0), x -> x.image(1), x -> x.permutes(1),
            x -> x.powers(1), x -> x.cycles(0, 5), x -> x.order(0), x -> x.even(0), x -> x.orbit(4), x -> x.orbits(),
            x -> x.spread(1), x -> x.monomials(), x -> x.dicksons(4), x -> x.binomials(5), x -> x.print(),
            x -> x.status(0)};
    }

    private static void askedNothingChanges() {
        CHECK.sentence("Terms", "Asked, nothing stays changed.");
        Check.CallOf[] asks = questions();
        for (int i = 0; i < asks.length; i++) {
            FieldPerms x = two();
            long first = asks[i].go(x);
            CHECK.same("question " + i + " asked again", first, asks[i].go(x));
            CHECK.same("question " + i + " counts as no refusal", "[0, 0, 0]", Arrays.toString(Check.statuses(x)));
            CHECK.samePast("question " + i, x, two());
        }
    }

    private static void askedOneBehindTheOther() {
        CHECK.sentence("Terms", "Asked, nothing stays changed.");
        Check.CallOf[] asks = questions();
        for (int i = 0; i < asks.length; i++) {
            long want = asks[i].go(two());
            for (int j = 0; j < asks.length; j++) {
                FieldPerms x = two();
                asks[j].go(x);
                CHECK.same("question " + i + " behind " + j, want, asks[i].go(x));
            }
            FieldPerms x = two();
            x.again(0, 3);
            x.undo();
            CHECK.same("question " + i + " behind an act taken back", want, asks[i].go(x));
        }
    }

    private static void theFirstTold() {
        CHECK.sentence("Terms", "Of several exceptions of one call the one told first is thrown");
        Supplier<FieldPerms> six = ActEdgeTests::six;
        Supplier<FieldPerms> two = ActEdgeTests::two;
        CHECK.refused("after, no other, six", six, NO_SUCH, x -> x.after(0, 6));
        CHECK.refused("again, no polynomial, no n, six", six, NO_SUCH, x -> x.again(-1, -1));
        CHECK.refused("again, no n, six", six, ARGUMENT, x -> x.again(5, -1));
        CHECK.refused("back, no polynomial, six", six, NO_SUCH, x -> x.back(7));
        CHECK.refused("points, no point, no what", two, NO_SUCH, x -> x.points(0, 5, 4));
        CHECK.refused("points, no point, no what", two, NO_SUCH, x -> x.points(5, 0, -1));
        CHECK.refused("coefficient, no polynomial, no power", two, NO_SUCH, x -> x.coefficient(2, 5));
        CHECK.refused("cycles, no polynomial, no n", two, NO_SUCH, x -> x.cycles(2, 65));
        CHECK.refused("cycles, no n, does not permute", two, ARGUMENT, x -> x.cycles(1, 65));
        CHECK.refused("cycles, no n, does not permute", two, ARGUMENT, x -> x.cycles(1, -1));
    }

    private static void throwingChangesNothing() {
        CHECK.sentence("Terms", "a call that throws changes nothing but status()");
        Check.CallOf[] noSuch = {x -> x.value(0, 0, 5), x -> x.after(0, 2), x -> x.again(2, 0), x -> x.back(2),
            x -> x.drop(2), x -> x.points(0, 5, 0), x -> x.at(0, 5), x -> x.coefficient(2, 0), x -> x.degree(2),
            x -> x.taken(0, 5), x -> x.image(2), x -> x.permutes(2), x -> x.powers(2), x -> x.cycles(2, 0),
            x -> x.order(2), x -> x.even(2), x -> x.orbit(5), x -> x.spread(2), x -> x.dicksons(5)};
        Check.CallOf[] argument = {x -> x.text(21), x -> x.again(0, -1), x -> x.told(7), x -> x.points(0, 0, 4),
            x -> x.coefficient(0, 5), x -> x.cycles(0, 65), x -> x.binomials(64)};
        Check.CallOf[] state = {x -> x.back(1), x -> x.cycles(1, 0), x -> x.order(1), x -> x.even(1)};
        allRefused(NO_SUCH, noSuch);
        allRefused(ARGUMENT, argument);
        allRefused(STATE, state);
    }

    private static void allRefused(Class<?> want, Check.CallOf[] calls) {
        for (int i = 0; i < calls.length; i++) {
            CHECK.refused(want.getSimpleName() + " " + i, ActEdgeTests::two, want, calls[i]);
        }
    }
}
