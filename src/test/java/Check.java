import java.nio.charset.StandardCharsets;
import java.util.Arrays;
import java.util.NoSuchElementException;
import java.util.function.Supplier;

/** What all tests share: comparing answers, and feeding texts twenty bytes at a time. */
final class Check {
    /** A call of the class, so that what it throws can be looked at. */
    interface Call {
        long go();
    }

    /** A call on an object that is still to be made. */
    interface CallOf {
        long go(FieldPerms x);
    }

    private static final Class<?>[] REASONS = {NoSuchElementException.class, IllegalArgumentException.class,
        IllegalStateException.class};

    private int wrong = 0;
    private int looked = 0;
    private long promises = 0;
    private String part = "";

    void begin(String name) {
        part = name;
    }

    /** The checks behind it belong to a sentence of DOC.md; that it stands there is looked up. */
    void sentence(String where, String words) {
        begin(where + ", \"" + words + "\"");
        holds("it stands in the document", Document.says(where, words));
    }

    /** The same for a promise, by its number. */
    void sentence(int promise, String words) {
        sentence("Promise " + promise + ":", words);
        promises |= 1L << promise;
    }

    /** That each of these promises had a sentence. */
    void hadSentences(int first, int last) {
        begin("sentences");
        for (int promise = first; promise <= last; promise++) {
            holds("promise " + promise + " has one", (promises >>> promise & 1) == 1);
        }
    }

    void same(String what, long want, long got) {
        looked++;
        if (want != got) {
            wrong++;
            System.out.println(part + ": " + what + " answered " + got + ", due is " + want);
        }
    }

    void holds(String what, boolean is) {
        same(what, 1, is ? 1 : 0);
    }

    void refuses(String what, Class<?> want, Call call) {
        looked++;
        String got = thrownBy(call);
        if (!got.equals(want.getName())) {
            wrong++;
            System.out.println(part + ": " + what + " threw " + got + ", due is " + want.getName());
        }
    }

    /**
     * A call that is refused is counted once, by its own reason, and leaves all else as it was: the object looks like
     * one that was made in the same way and not called, and so does all that can still be taken back.
     */
    void refused(String what, Supplier<FieldPerms> maker, Class<?> want, CallOf call) {
        FieldPerms x = maker.get();
        int[] counted = statuses(x);
        refuses(what, want, () -> call.go(x));
        int[] counts = statuses(x);
        for (int i = 0; i < REASONS.length; i++) {
            same(what + ", status " + i, counted[i] + (want == REASONS[i] ? 1 : 0), counts[i]);
        }
        samePast(what, x, maker.get());
    }

    void same(String what, String want, String got) {
        looked++;
        if (!want.equals(got)) {
            wrong++;
            System.out.println(part + ": " + what + " is " + got + ", due is " + want);
        }
    }

    /** What can be seen of an object by a few calls, none of which is refused; but for status(). */
    static String look(FieldPerms x) {
        StringBuilder seen = new StringBuilder();
        for (int what = 0; what <= 6; what++) {
            seen.append(x.told(what)).append(' ');
        }
        int last = x.told(0) - 1;
        for (int what = 0; what <= 3; what++) {
            seen.append(x.points(last, 1, what)).append(' ').append(x.points(last, last, what)).append(' ');
        }
        return seen.append(x.fault()).append(' ').append(x.print()).append(' ').append(x.orbits()).toString();
    }

    static int[] statuses(FieldPerms x) {
        return new int[] {x.status(0), x.status(1), x.status(2)};
    }

    /** Takes all back on both, which must look the same at each step. */
    void samePast(String what, FieldPerms x, FieldPerms y) {
        same(what + " leaves", look(y), look(x));
        for (int step = 1; step <= 9; step++) {
            same(what + ", undo " + step, y.undo(), x.undo());
            same(what + ", behind undo " + step, look(y), look(x));
        }
    }

    static String thrownBy(Call call) {
        try {
            call.go();
            return "nothing";
        } catch (RuntimeException e) {
            return e.getClass().getName();
        }
    }

    /** Ends the program. */
    void end(String name) {
        System.out.println(name + ": " + looked + " answers, " + wrong + " wrong");
        System.exit(wrong == 0 ? 0 : 1);
    }

    static byte[] bytesOf(String text) {
        return text.getBytes(StandardCharsets.ISO_8859_1);
    }

    /** Feeds a text (of up to 300 bytes, on an empty tape), zeros behind it. */
    static void feed(FieldPerms perms, String text) {
        byte[] bytes = bytesOf(text);
        for (int from = 0; from < bytes.length; from += 20) {
            feedTwenty(perms, Arrays.copyOfRange(bytes, from, from + 20));
        }
    }

    static int feedTwenty(FieldPerms perms, byte[] b) {
        return perms.feed(four(b, 0), four(b, 4), four(b, 8), four(b, 12), four(b, 16));
    }

    static int four(byte[] b, int i) {
        return (b[i] & 255) << 24 | (b[i + 1] & 255) << 16 | (b[i + 2] & 255) << 8 | b[i + 3] & 255;
    }

    static int tell(FieldPerms perms, String text) {
        feed(perms, text);
        return perms.text(text.length());
    }

    /** A new object that has been told a text that must be right. */
    static FieldPerms told(String text) {
        FieldPerms perms = new FieldPerms();
        int got = tell(perms, text);
        if (got < 0) {
            throw new IllegalStateException("fault " + (got + 10) + " at " + perms.fault() + " of: " + text);
        }
        return perms;
    }
}
