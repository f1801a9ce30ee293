import java.nio.charset.StandardCharsets;
import java.util.Arrays;

/** What all tests share: comparing answers, and feeding texts twenty bytes at a time. */
final class Check {
    /** A call of the class, so that what it throws can be looked at. */
    interface Call {
        long go();
    }

    private int wrong = 0;
    private int looked = 0;
    private String part = "";

    void begin(String name) {
        part = name;
    }

    void same(String what, long want, long got) {
        looked++;
        if (want != got) {
            wrong++;
            System.out.println(part + ": " + what + " answered " + got + ", due is " + want);
        }
    }

    void holds(String what, boolean is) {
        same(what, 1, is ? 1 : 0);
    }

    void refuses(String what, Class<?> want, Call call) {
        looked++;
        String got = thrownBy(call);
        if (!got.equals(want.getName())) {
            wrong++;
            System.out.println(part + ": " + what + " threw " + got + ", due is " + want.getName());
        }
    }

    static String thrownBy(Call call) {
        try {
            call.go();
            return "nothing";
        } catch (RuntimeException e) {
            return e.getClass().getName();
        }
    }

    /** Ends the program. */
    void end(String name) {
        System.out.println(name + ": " + looked + " answers, " + wrong + " wrong");
        System.exit(wrong == 0 ? 0 : 1);
    }

    static byte[] bytesOf(String text) {
        return text.getBytes(StandardCharsets.ISO_8859_1);
    }

    /** Feeds a text (of up to 300 bytes, on an empty tape), zeros behind it. */
    static void feed(FieldPerms perms, String text) {
        byte[] bytes = bytesOf(text);
        for (int from = 0; from < bytes.length; from += 20) {
            feedTwenty(perms, Arrays.copyOfRange(bytes, from, from + 20));
        }
    }

    static int feedTwenty(FieldPerms perms, byte[] b) {
        return perms.feed(four(b, 0), four(b, 4), four(b, 8), four(b, 12), four(b, 16));
    }

    static int four(byte[] b, int i) {
        return (b[i] & 255) << 24 | (b[i + 1] & 255) << 16 | (b[i + 2] & 255) << 8 | b[i + 3] & 255;
    }

    static int tell(FieldPerms perms, String text) {
        feed(perms, text);
        return perms.text(text.length());
    }

    /** A new object that has been told a text that must be right. */
    static FieldPerms told(String text) {
        FieldPerms perms = new FieldPerms();
        int got = tell(perms, text);
        if (got < 0) {
            throw new IllegalStateException("fault " + (got + 10) + " at " + perms.fault() + " of: " + text);
        }
        return perms;
    }
}
