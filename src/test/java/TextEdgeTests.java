import java.util.ArrayList;
import java.util.Arrays;
import java.util.List;

/** The edges that the terms name for a text and its faults, and promises 2 to 4, sentence by sentence. */
public final class TextEdgeTests {
    private static final Check CHECK = new Check();
    private static final Class<?> ARGUMENT = IllegalArgumentException.class;
    private static final String SIX = "poly x;poly x;poly x;poly x;poly x;poly x;";
    /** A right text in which all that a text may hold stands, cut into its words, numbers and signs. */
    private static final String[] PIECES = {"field", "7", " 1", ";", "poly", " x", "^", "12", "-", "3", ";", "poly",
        "(", "x", "*", "x", "+", "f", "0", "(", "5", ")", "^", "2", ")", "*", "dickson", "11", " 4", "+", "6", ";"};

    public static void main(String[] args) {
        lengths();
        anyNumberOfPolys();
        chains();
        powers();
        toTheZero();
        pointsAsNumbers();
        polynomialsToldAhead();
        whichDicksons();
        firstDicksons();
        numbers();
        words();
        blanks();
        theLeastByte();
        theFirstInTheList();
        whatCannotStand();
        endsTooEarly();
        numbersThatAreNoneSuch();
        theSeventh();
        withinFourOthers();
        feedBytes();
        feedCounts();
        feedBeyond();
        textTellsAnew();
        textEmptiesTheTape();
        textWithFault();
        textRefused();
        faultAheadOfAny();
        faultOfTheLatest();
        CHECK.hadSentences(2, 4);
        CHECK.end("TextEdgeTests");
    }

    private static void right(String text, int polys) {
        FieldPerms x = new FieldPerms();
        CHECK.same("'" + text + "'", polys, Check.tell(x, text));
        CHECK.same("'" + text + "', fault", -1, x.fault());
    }

    private static void fault(int kind, int place, String text) {
        FieldPerms x = new FieldPerms();
        CHECK.same("'" + text + "'", kind - 10, Check.tell(x, text));
        CHECK.same("'" + text + "', fault", place, x.fault());
    }

    private static void row(String text, int... want) {
        FieldPerms x = new FieldPerms();
        int count = Check.tell(x, text);
        CHECK.holds("'" + text + "' is right", count > 0);
        for (int s = 0; s < want.length && count > 0; s++) {
            CHECK.same("'" + text + "', the last one at " + s, want[s], x.at(count - 1, s));
        }
    }

    private static String filled(String head, int length, String tail) {
        return head + " ".repeat(length - head.length() - tail.length()) + tail;
    }

    private static void lengths() {
        CHECK.sentence("Terms", "A TEXT has up to 300 bytes");
        fault(1, 0, "");
        right("field 2 1;", 0);
        for (int length = 280; length <= 300; length++) {
            right(filled("field 5 1;poly x", length, ";"), 1);
            right(filled("field 5 1;poly x;", length, ""), 1);
            fault(1, length, filled("field 5 1;poly x", length, "+1"));
            fault(1, length - 1, filled("field 5 1;poly x;", length, "x"));
            fault(1, 0, ";".repeat(length));
            fault(1, 10, "field 5 1;" + ";".repeat(length - 10));
            fault(1, 16, "field 5 1;poly x" + "()".repeat(length / 2 - 8));
        }
    }

    private static void anyNumberOfPolys() {
        CHECK.sentence("Terms", "\"field\" N N \";\" { \"poly\" E \";\" }: P, M");
        for (int count = 0; count <= 6; count++) {
            right("field 2 1;" + SIX.substring(0, 7 * count), count);
        }
        fault(1, 6, "field ;");
        fault(1, 7, "field 2;");
        fault(1, 10, "field 2 1 poly x;");
        fault(1, 10, "field 2 1;;");
        fault(1, 14, "field 2 1;poly;");
        fault(1, 17, "field 2 1;poly x field 2 1;");
        fault(1, 17, "field 2 1;poly x;field 2 1;");
    }

    private static void chains() {
        CHECK.sentence("Terms", "E: T { ( \"+\" | \"-\" ) T }. T: U { \"*\" U }");
        row("field 7 1;poly 3;", 3, 3, 3, 3, 3, 3, 3);
        // 283 bytes: 3, then 141 times less 3: 3 less 423 is less 420, which is 0
        row(longest("field 7 1;poly  3", "-3"), 0, 0, 0, 0, 0, 0, 0);
        // 3 to the 142nd is 3 to the 4th
        row(longest("field 7 1;poly  3", "*3"), 4, 4, 4, 4, 4, 4, 4);
        row("field 7 1;poly 1-2-3;", 3, 3, 3, 3, 3, 3, 3);
        row("field 7 1;poly 1-2+3;", 2, 2, 2, 2, 2, 2, 2);
        row("field 7 1;poly 2*x-x*x;", 0, 1, 0, 4, 6, 6, 4);
        fault(1, 17, "field 7 1;poly x x;");
        fault(1, 17, "field 7 1;poly x*;");
        fault(1, 15, "field 7 1;poly *x;");
        fault(1, 17, "field 7 1;poly x+-x;");
        fault(1, 18, "field 7 1;poly (x+);");
    }

    /** A text of just 300 bytes: the head, more as often as it fits, and ";". */
    private static String longest(String head, String more) {
        return head + more.repeat((299 - head.length()) / more.length()) + ";";
    }

    private static void powers() {
        CHECK.sentence("Terms", "U: V [ \"^\" N ] (0 to 9,999; to the 0 it is POINT 1)");
        row("field 5 1;poly x^1;", 0, 1, 2, 3, 4);
        row("field 5 1;poly x^9998;", 0, 1, 4, 4, 1);
        row("field 5 1;poly x^9999;", 0, 1, 3, 2, 4);
        row("field 5 1;poly x^0009999;", 0, 1, 3, 2, 4);
        row("field 5 1;poly 2^3;", 3, 3, 3, 3, 3);
        fault(2, 17, "field 5 1;poly x^10000;");
        fault(2, 17, "field 5 1;poly x^00010000;");
        fault(2, 17, "field 5 1;poly x^99999;");
        fault(2, 17, "field 5 1;poly x^2147483648;");
        fault(2, 17, "field 5 1;poly x^4294967297;");
        fault(2, 17, "field 5 1;poly x^18446744073709551617;");
        fault(1, 17, "field 5 1;poly x^-1;");
        fault(1, 17, "field 5 1;poly x^;");
        fault(1, 17, "field 5 1;poly x^(2);");
        fault(1, 18, "field 5 1;poly x^2^2;");
    }

    private static void toTheZero() {
        CHECK.sentence("Terms", "to the 0 it is POINT 1");
        for (String what : new String[] {"0^0", "x^0", "4^0", "(x-x)^0", "(x^4)^0", "dickson 0 0^0", "x^000"}) {
            row("field 5 1;poly " + what + ";", 1, 1, 1, 1, 1);
        }
        row("field 5 1;poly 0;poly f0(x)^0;", 1, 1, 1, 1, 1);
        row("field 2 1;poly x^0;", 1, 1);
        row("field 2 1;poly 0^1;", 0, 0);
    }

    private static void pointsAsNumbers() {
        CHECK.sentence("Terms", "V: N (a POINT)");
        for (int[] field : Model.fields()) {
            String head = "field " + field[0] + " " + field[1] + ";poly ";
            int q = field[2];
            row(head + "0;", 0, 0);
            row(head + (q - 1) + ";", q - 1, q - 1);
            row(head + "00" + (q - 1) + ";", q - 1, q - 1);
            fault(2, head.length(), head + q + ";");
            fault(2, head.length() + 2, head + "x+" + q + ";");
            fault(2, head.length(), head + "4294967296;");
            fault(1, head.length(), head + "-1;");
        }
    }

    private static void polynomialsToldAhead() {
        CHECK.sentence("Terms", "\"f\" N \"(\" E \")\" (that POLYNOMIAL, told ahead, of E)");
        fault(2, 16, "field 5 1;poly f0(x);");
        row("field 5 1;poly x+1;poly f0(x);", 1, 2, 3, 4, 0);
        row("field 5 1;poly x+1;poly f0(f0(x)*2);", 3, 0, 2, 4, 1);
        fault(2, 23, "field 5 1;poly x;poly f1(x);");
        CHECK.same("of all 64 points", 63, Check.told("field 2 6;poly x+1;poly f0(f0(x));").at(1, 63));
        String five = "field 5 1;" + SIX.substring(0, 35);
        row(five + "poly f4(x)+f0(1);", 1, 2, 3, 4, 0);
        fault(2, five.length() + 6, five + "poly f5(x);");
        fault(2, five.length() + 6, five + "poly f6(x);");
        fault(2, five.length() + 6, five + "poly f4294967296(x);");
        fault(1, five.length() + 6, five + "poly f-1(x);");
        fault(1, five.length() + 7, five + "poly f4;");
        fault(1, five.length() + 8, five + "poly f4();");
        FieldPerms x = Check.told("field 5 1;poly x;");
        CHECK.same("one of the text ahead is none told ahead", -8, Check.tell(x, "field 5 1;poly f0(x);"));
    }

    private static void whichDicksons() {
        CHECK.sentence("Terms", "\"dickson\" N N (DICKSON's n-th, 0 to 9,999, by POINT a)");
        for (int[] field : new int[][] {{2, 1, 2}, {5, 1, 5}, {2, 2, 4}, {7, 2, 49}, {2, 6, 64}}) {
            Model.Base base = Model.base(field[0], field[1]);
            String head = "field " + field[0] + " " + field[1] + ";poly dickson ";
            int q = field[2];
            for (int a : new int[] {0, 1, q - 1}) {
                for (int n : new int[] {0, 1, 2, 3, 9998, 9999}) {
                    row(head + n + " " + a + ";", base.values(base.dickson(n, a)));
                }
            }
            fault(2, head.length(), head + "10000 0;");
            fault(2, head.length(), head + "4294967296 0;");
            fault(2, head.length() + 2, head + "0 " + q + ";");
            fault(2, head.length() + 5, head + "9999 " + q + ";");
            fault(2, head.length(), head + "10000 " + q + ";");
            fault(1, head.length() + 1, head + "1;");
            fault(1, head.length() + 2, head + "1 x;");
            fault(1, head.length(), head + "-1 0;");
        }
    }

    private static void firstDicksons() {
        CHECK.sentence("Terms", "the 0th is POINT 1 and POINT 1, the 1st is x, each other one is x times the one"
                + " ahead less a times the one ahead of that");
        row("field 2 1;poly dickson 0 1;", 0, 0);
        row("field 2 3;poly dickson 0 7;", 0, 0, 0, 0, 0, 0, 0, 0);
        row("field 3 1;poly dickson 0 0;", 2, 2, 2);
        row("field 5 1;poly dickson 0 4;", 2, 2, 2, 2, 2);
        row("field 5 1;poly dickson 1 4;", 0, 1, 2, 3, 4);
        // x^2 less 2a: the 0th is 2, not 1
        row("field 5 1;poly dickson 2 4;", 2, 3, 1, 1, 3);
        // x^3 less 3ax
        row("field 5 1;poly dickson 3 4;", 0, 4, 4, 1, 1);
    }

    private static void numbers() {
        CHECK.sentence("Terms", "N: digits as many as stand there");
        fault(2, 8, "field 2 11;");
        fault(1, 10, "field 2 1 1;");
        fault(2, 6, "field 21;");
        row("field 5 1;poly x^12;", 0, 1, 1, 1, 1);
        fault(1, 19, "field 5 1;poly x^1 2;");
        fault(1, 17, "field 5 1;poly 1 2;");
        row("field 5 1;poly x;poly 3;poly f01(x);", 3, 3, 3, 3, 3);
        row("field 5 1;poly " + "0".repeat(280) + "3;", 3, 3, 3, 3, 3);
        row("field 5 1;poly " + "0".repeat(283) + "3;", 3, 3, 3, 3, 3);
        fault(2, 15, "field 5 1;poly " + "9".repeat(284) + ";");
        fault(2, 15, "field 5 1;poly 1" + "0".repeat(283) + ";");
        fault(2, 6, "field 1" + "0".repeat(293));
        fault(2, 15, "field 5 1;poly 4294967297;");
        fault(2, 6, "field 4294967301 1;");
        fault(2, 8, "field 5 4294967297;");
    }

    private static void words() {
        CHECK.sentence("Terms", "words: small letters as many as stand there");
        fault(1, 0, "fieldx 5 1;");
        fault(1, 0, "fields 5 1;");
        fault(1, 0, "fiel");
        fault(1, 10, "field 5 1;polyx;");
        fault(1, 10, "field 5 1;pol x;");
        fault(1, 15, "field 5 1;poly xx;");
        fault(1, 15, "field 5 1;poly ff0(x);");
        fault(1, 15, "field 5 1;poly dicksons 1 1;");
        fault(1, 15, "field 5 1;poly dickso 1 1;");
        fault(1, 24, "field 5 1;poly dickson 1x;");
        fault(1, 17, "field 5 1;poly x f;");
        fault(1, 16, "field 5 1;poly xX;");
        fault(1, 0, "FIELD 5 1;");
        fault(1, 15, "field 5 1;poly X;");
        row("field5 1;poly4;", 4, 4, 4, 4, 4);
        row("field5 1;poly dickson1 1;", 0, 1, 2, 3, 4);
        row("field5 1;poly(x);", 0, 1, 2, 3, 4);
        fault(1, 0, "z".repeat(300));
    }

    private static void blanks() {
        CHECK.sentence("Terms", "blanks (32) may stand ahead of all words, numbers, signs, and at the end");
        long due = Check.told(String.join("", PIECES)).print();
        for (int i = 0; i <= PIECES.length; i++) {
            List<String> pieces = new ArrayList<>(Arrays.asList(PIECES));
            pieces.add(i, "   ");
            FieldPerms x = new FieldPerms();
            CHECK.same("blanks ahead of piece " + i, 2, Check.tell(x, String.join("", pieces)));
            CHECK.same("blanks ahead of piece " + i + ", print", due, x.print());
        }
        CHECK.same("blanks everywhere", due, Check.told(String.join("  ", PIECES) + "  ").print());
        fault(1, 0, "fie ld 5 1;");
        fault(1, 10, "field 5 1;po ly x;");
        fault(1, 15, "field 5 1;poly dick son 1 1;");
        fault(1, 300, " ".repeat(300));
        for (int b = 0; b < 256; b++) {
            betweenXAndPlus(b);
        }
    }

    /** Just one byte is a blank; what each other one does there follows from the grammar. */
    private static void betweenXAndPlus(int b) {
        String text = "field 5 1;poly x" + (char) b + "+1;";
        if (b == ' ') {
            row(text, 1, 2, 3, 4, 0);
        } else if (b >= 'a' && b <= 'z') {
            fault(1, 15, text);
        } else {
            fault(1, "+-*^;".indexOf(b) >= 0 ? 17 : 16, text);
        }
    }

    private static void theLeastByte() {
        CHECK.sentence("Terms", "of several the one whose first byte is least");
        fault(2, 6, "field 4 0;poly (((((");
        fault(2, 8, "field 5 9;poly ,;");
        fault(2, 15, "field 5 1;poly 5+(((((x");
        fault(4, 19, "field 5 1;poly (((((5)))));");
        fault(1, 16, "field 5 1;poly x,5;" + SIX);
        fault(2, 15, "field 5 1;poly 9;" + SIX);
        fault(3, 52, "field 5 1;" + SIX + "poly 9,(((((");
        // the number has digits behind, the word has letters behind: their first byte tells
        fault(2, 17, "field 5 1;poly x^99999,");
        fault(1, 15, "field 5 1;poly zzzzz,99999");
    }

    private static void theFirstInTheList() {
        CHECK.sentence("Terms", "of one byte the first in this list");
        fault(1, 10, "field 5 1 99;");
        fault(1, 0, "99");
        fault(1, 17, "field 5 1;poly x 99999;");
        // the seventh "poly" stands where ";" is due, and where the sixth one's sum is due
        fault(1, 52, "field 5 1;" + SIX.substring(0, 41) + " poly x;");
        fault(1, 50, "field 5 1;" + SIX.substring(0, 35) + "poly poly x;");
        fault(1, 20, "field 5 1;poly ((((x(x)))));");
        fault(1, 21, "field 5 1;poly ((((x^(x)))));");
        fault(1, 30, "field 5 1;poly x;poly f0((((x)(x))));");
    }

    private static void whatCannotStand() {
        CHECK.sentence("Terms", "1 what can't stand there (at the length, if the text ends too early)");
        for (int i = 0; i < PIECES.length; i++) {
            int place = String.join("", Arrays.copyOf(PIECES, i)).length();
            place += PIECES[i].startsWith(" ") ? 1 : 0;
            List<String> pieces = new ArrayList<>(Arrays.asList(PIECES));
            for (int b = 0; b < 256; b++) {
                if (standsNowhere(b)) {
                    pieces.set(i, (PIECES[i].startsWith(" ") ? " " : "") + (char) b);
                    fault(1, place, String.join("", pieces));
                }
            }
        }
        String all = String.join("", PIECES);
        for (int b = 0; b < 256; b++) {
            if (standsNowhere(b)) {
                fault(1, all.length(), all + (char) b);
            }
        }
    }

    private static boolean standsNowhere(int b) {
        return !(b >= 'a' && b <= 'z' || b >= '0' && b <= '9' || " +-*^();".indexOf(b) >= 0);
    }

    /** Each beginning of a right text: cut inside a word that word can't stand there, else it ends too early. */
    private static void endsTooEarly() {
        CHECK.sentence("Terms", "(at the length, if the text ends too early)");
        String all = String.join("", PIECES) + "  ";
        for (int n = 0; n <= all.length(); n++) {
            String text = all.substring(0, n);
            String trimmed = text.stripTrailing();
            if (trimmed.endsWith(";")) {
                right(text, text.split("poly", -1).length - 1);
            } else {
                fault(1, insideWord(all, n) ? startOfWord(text) : n, text);
            }
        }
        fault(1, 20, "field 5 1;poly x    ");
        fault(1, 12, "field 5 1   ");
    }

    private static boolean isLetter(String text, int i) {
        return i >= 0 && i < text.length() && Character.isLowerCase(text.charAt(i));
    }

    private static boolean insideWord(String all, int n) {
        return isLetter(all, n - 1) && isLetter(all, n);
    }

    private static int startOfWord(String text) {
        int i = text.length();
        while (isLetter(text, i - 1)) {
            i--;
        }
        return i;
    }

    private static void numbersThatAreNoneSuch() {
        CHECK.sentence("Terms", "2 a number that is none such (P no prime up to 64; M by which q is above 64, or 0;"
                + " a POINT, a POLYNOMIAL that there is not)");
        for (int p : new int[] {0, 1, 4, 9, 49, 60, 62, 63, 64, 65, 67, 71, 128, 256, 65537}) {
            fault(2, 6, "field " + p + " 1;");
            fault(2, 6, "field " + p);
        }
        right("field 2 1;", 0);
        right("field 61 1;", 0);
        right("field 0061 0001;", 0);
        fault(2, 8, "field 5 0;");
        fault(2, 8, "field 5 000;");
        fault(2, 9, "field 61 0;");
        String[] lasts = {"2 6", "3 3", "5 2", "7 2", "11 1", "31 1", "61 1"};
        String[] nexts = {"2 7", "3 4", "5 3", "7 3", "11 2", "31 2", "61 2"};
        for (int i = 0; i < lasts.length; i++) {
            right("field " + lasts[i] + ";", 0);
            fault(2, nexts[i].indexOf(' ') + 7, "field " + nexts[i] + ";");
        }
        for (String m : new String[] {"32", "33", "63", "64", "65", "1000000", "4294967296"}) {
            fault(2, 8, "field 2 " + m + ";");
        }
    }

    private static void theSeventh() {
        CHECK.sentence("Terms", "3 a seventh \"poly\" (by its word)");
        right("field 5 1;" + SIX, 6);
        right("field 5 1;" + SIX + "   ", 6);
        fault(3, 52, "field 5 1;" + SIX + "poly x;");
        fault(3, 55, "field 5 1;" + SIX + "   poly x;");
        fault(3, 52, "field 5 1;" + SIX + "poly");
        fault(3, 52, "field 5 1;" + SIX + "poly,");
        fault(1, 52, "field 5 1;" + SIX + "polyx;");
        fault(1, 52, "field 5 1;" + SIX + "pol");
        fault(1, 52, "field 5 1;" + SIX + ";");
        fault(1, 52, "field 5 1;" + SIX.substring(0, 41) + "*;");
    }

    private static void withinFourOthers() {
        CHECK.sentence("Terms", "4 a \"(\" within four others (of \"f\", too)");
        String head = "field 5 1;poly x;poly ";
        for (int depth = 1; depth <= 5; depth++) {
            for (int ofF = 0; ofF < 1 << depth; ofF++) {
                nested(head, depth, ofF);
            }
        }
        row("field 5 1;poly ((((x))))*((((x))))+((((1))));", 1, 2, 0, 0, 2);
        row("field 5 1;poly (((x)+(x))+(((x))));", 0, 3, 1, 4, 2);
        fault(4, 29, "field 5 1;poly ((((x))))*((((((x))))));");
    }

    private static void nested(String head, int depth, int ofF) {
        StringBuilder text = new StringBuilder(head);
        int place = 0;
        for (int i = 0; i < depth; i++) {
            text.append((ofF >> i & 1) == 1 ? "f0(" : "(");
            place = text.length() - 1;
        }
        text.append('x').append(")".repeat(depth)).append(';');
        if (depth <= 4) {
            row(text.toString(), 0, 1, 2, 3, 4);
        } else {
            fault(4, place, text.toString());
        }
    }

    private static void feedBytes() {
        CHECK.sentence(2, "Twenty bytes come on the TAPE, of each number the highest first");
        for (int i = 0; i < 20; i++) {
            for (int b : new int[] {0, 127, 128, 255}) {
                byte[] bytes = new byte[20];
                Arrays.fill(bytes, (byte) ' ');
                bytes[i] = (byte) b;
                FieldPerms x = new FieldPerms();
                Check.feedTwenty(x, bytes);
                CHECK.same("byte " + b + " at " + i, -9, x.text(20));
                CHECK.same("byte " + b + " at " + i + ", fault", i, x.fault());
            }
        }
        FieldPerms x = new FieldPerms();
        // "fiel" "d 3 " "1;po" "ly x" "+2; "
        x.feed(0x6669656c, 0x64203320, 0x313b706f, 0x6c792078, 0x2b323b20);
        CHECK.same("by hand", 1, x.text(20));
        CHECK.same("by hand, at 0", 2, x.at(0, 0));
    }

    private static void feedCounts() {
        CHECK.sentence(2, "how many there are");
        FieldPerms x = new FieldPerms();
        CHECK.same("nothing there yet", 0, x.told(5));
        for (int i = 1; i <= 15; i++) {
            CHECK.same("feed " + i, 20 * i, x.feed(-1, Integer.MIN_VALUE, 0, Integer.MAX_VALUE, 1));
            CHECK.same("told 5", 20 * i, x.told(5));
        }
    }

    private static void feedBeyond() {
        CHECK.sentence(2, "NONE, doing nothing, if there would be more than 300");
        FieldPerms x = new FieldPerms();
        Check.feed(x, filled("field 5 1;poly x", 300, "+1;"));
        for (int i = 0; i < 3; i++) {
            CHECK.same("one more than fits", -1, x.feed(0x2c2c2c2c, 0, 0, 0, 0));
            CHECK.same("bytes", 300, x.told(5));
        }
        CHECK.same("it is not refused by an exception", "[0, 0, 0]", Arrays.toString(Check.statuses(x)));
        CHECK.same("acts", 0, x.told(6));
        CHECK.same("the bytes are those that were there", 1, x.text(300));
        CHECK.same("at 4", 0, x.at(0, 4));
        CHECK.same("room again", 20, x.feed(0, 0, 0, 0, 0));
        for (int i = 2; i <= 15; i++) {
            CHECK.same("room again", 20 * i, x.feed(0, 0, 0, 0, 0));
        }
        CHECK.same("full again", -1, x.feed(0, 0, 0, 0, 0));
    }

    private static void textTellsAnew() {
        CHECK.sentence(3, "tell all anew: how many POLYNOMIALS");
        FieldPerms x = Check.told("field 2 6;" + SIX);
        CHECK.same("of six", 6, x.told(4));
        CHECK.same("none", 0, Check.tell(x, "field 3 1;"));
        CHECK.same("none is left", 0, x.told(4));
        CHECK.same("print", 0, x.print());
        CHECK.same("q", 3, x.told(0));
        CHECK.same("one", 1, Check.tell(x, "field 2 6;poly 63;"));
        CHECK.same("all 64 values", 64, x.taken(0, 63));
        CHECK.same("the same field anew", 2, Check.tell(x, "field 2 6;poly 1;poly x;"));
        CHECK.same("its values", 1, x.at(0, 63));
        CHECK.same("six", 6, Check.tell(x, "field 2 1;" + SIX));
    }

    private static void textEmptiesTheTape() {
        CHECK.sentence(3, "The first n bytes of the TAPE (empty then)");
        FieldPerms x = new FieldPerms();
        Check.feed(x, "field 5 1;poly x;poly 1;");
        CHECK.same("the first 17 of 40", 1, x.text(17));
        CHECK.same("all 40 are gone", 0, x.told(5));
        CHECK.refuses("none is left", ARGUMENT, () -> x.text(1));
        Check.feed(x, "field 5 1;poly x;");
        CHECK.same("no byte of 20", -9, x.text(0));
        CHECK.same("all 20 are gone", 0, x.told(5));
        CHECK.same("fed anew from the first place on", 0, Check.tell(x, "field 7 1;"));
        Check.feed(x, filled("field 5 1;poly x;", 300, "poly 1;"));
        CHECK.same("all but the last byte", -9, x.text(299));
        CHECK.same("fault", 299, x.fault());
        CHECK.same("all 300 are gone", 0, x.told(5));
        Check.feed(x, filled("field 5 1;poly x;", 300, "poly 1;"));
        CHECK.same("all 300", 2, x.text(300));
    }

    private static void textWithFault() {
        CHECK.sentence(3, "or the FAULT less 10 (all but the TAPE stays)");
        String[] texts = {"field 7 1;poly x,;", "field 7 2;poly x;poly 49;", "field 2 6;" + SIX + "poly x;",
            "field 61 1;poly (((((x)))));"};
        for (int kind = 1; kind <= 4; kind++) {
            FieldPerms x = afterSomeActs();
            Check.feed(x, texts[kind - 1]);
            CHECK.same("fault " + kind, kind - 10, x.text(texts[kind - 1].length()));
            CHECK.same("fault " + kind + ", tape", 0, x.told(5));
            CHECK.same("fault " + kind + " is no refusal", "[0, 0, 0]", Arrays.toString(Check.statuses(x)));
            CHECK.holds("fault " + kind + ", its place", x.fault() > 0);
            FieldPerms y = afterSomeActs();
            for (int step = 0; step < 10; step++) {
                CHECK.same("fault " + kind + ", " + step + " taken back", seen(y), seen(x));
                CHECK.same("fault " + kind + ", undo", y.undo(), x.undo());
            }
        }
    }

    private static FieldPerms afterSomeActs() {
        FieldPerms x = Check.told("field 3 2;poly x+1;poly x^2;");
        x.value(1, 8, 7);
        x.back(0);
        x.drop(0);
        return x;
    }

    /** As Check.look() does, but for fault(), which may differ. */
    private static String seen(FieldPerms x) {
        StringBuilder all = new StringBuilder();
        for (int what = 0; what <= 6; what++) {
            all.append(x.told(what)).append(' ');
        }
        int last = x.told(0) - 1;
        all.append(x.points(last, last, 0)).append(' ').append(x.points(last, last, 2)).append(' ');
        return all.append(x.points(1, last, 3)).append(' ').append(x.print()).toString();
    }

    private static void textRefused() {
        CHECK.sentence(3, "IllegalArgumentException: n is not 0 to the TAPE's bytes (it stays)");
        for (int n : new int[] {-1, 1, 20, 300, Integer.MIN_VALUE, Integer.MAX_VALUE}) {
            CHECK.refused("text(" + n + ") of none", FieldPerms::new, ARGUMENT, x -> x.text(n));
            CHECK.refused("text(" + n + ") behind a text", TextEdgeTests::afterSomeActs, ARGUMENT, x -> x.text(n));
        }
        CHECK.same("text(0) of none", -9, new FieldPerms().text(0));
        String whole = filled("field 5 1;poly x", 300, "+1;");
        for (int fed = 20; fed <= 300; fed += 20) {
            String part = whole.substring(0, fed);
            for (int n : new int[] {-1, fed + 1, Integer.MIN_VALUE, Integer.MAX_VALUE}) {
                CHECK.refused("text(" + n + ") of " + fed, () -> fed(part), ARGUMENT, x -> x.text(n));
            }
            FieldPerms x = fed(part);
            Check.thrownBy(() -> x.text(part.length() + 1));
            CHECK.same("text(" + fed + ") of " + fed, fed == 300 ? 1 : -9, x.text(fed));
            CHECK.same("text(" + fed + ") of " + fed + ", fault", fed == 300 ? -1 : fed, x.fault());
        }
    }

    private static FieldPerms fed(String text) {
        FieldPerms x = new FieldPerms();
        Check.feed(x, text);
        return x;
    }

    private static void faultAheadOfAny() {
        CHECK.sentence(4, "NONE without one, and ahead of any");
        FieldPerms x = new FieldPerms();
        CHECK.same("ahead of any", -1, x.fault());
        Check.feed(x, "field 5 1;");
        CHECK.same("fed", -1, x.fault());
        CHECK.refuses("text(21)", ARGUMENT, () -> x.text(21));
        CHECK.same("one that threw, ahead of any", -1, x.fault());
        CHECK.same("right", 0, x.text(10));
        CHECK.same("without one", -1, x.fault());
        CHECK.same("wrong", -9, x.text(0));
        CHECK.same("at the first byte it is 0", 0, x.fault());
        CHECK.same("right", 0, Check.tell(x, "field 5 1;"));
        CHECK.same("without one again", -1, x.fault());
    }

    private static void faultOfTheLatest() {
        CHECK.sentence(4, "The place of the FAULT of the latest text() that threw nothing");
        FieldPerms x = Check.told("field 5 1;poly x;");
        Check.tell(x, "field 5 1;poly x;poly ?");
        CHECK.same("of the latest", 22, x.fault());
        Check.tell(x, filled("field 5 1;poly x", 300, "+"));
        CHECK.same("the greatest place", 300, x.fault());
        CHECK.refuses("text(-1)", ARGUMENT, () -> x.text(-1));
        CHECK.same("one that threw is not the latest", 300, x.fault());
        Check.feed(x, "field 4");
        x.value(0, 0, 1);
        x.undo();
        x.undo();
        CHECK.same("no other call changes it", 300, x.fault());
        CHECK.same("none such", -8, x.text(7));
        CHECK.same("of the latest", 6, x.fault());
    }
}
