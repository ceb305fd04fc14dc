import java.nio.charset.StandardCharsets;
import java.util.NoSuchElementException;

/** What the tests share: texts fed to an object, and answers held against those that are due. */
final class Check {
    static final int THROWN = Integer.MIN_VALUE;
    private static int wrong;

    private Check() {
    }

    static void same(String call, long got, long due) {
        if (got != due) {
            wrong++;
            System.out.println(call + " answered " + got + ", due is " + due);
        }
    }

    static void yes(String call, boolean got) {
        same(call, got ? 1 : 0, 1);
    }

    static void no(String call, boolean got) {
        same(call, got ? 1 : 0, 0);
    }

    static int rests(OtterWrits x, int both, int loses, int gets, int what) {
        try {
            return x.rests(both, loses, gets, what);
        } catch (NoSuchElementException e) {
            return THROWN;
        }
    }

    static long[] pack(byte[] bytes, int from) {
        long[] packed = new long[3];
        for (int i = 0; i < 24; i++) {
            int sign = from + i < bytes.length ? bytes[from + i] & 255 : 0;
            packed[i / 8] = packed[i / 8] << 8 | sign;
        }
        return packed;
    }

    static int feed(OtterWrits x, String text) {
        byte[] bytes = text.getBytes(StandardCharsets.ISO_8859_1);
        int length = x.count(12);
        for (int i = 0; i < bytes.length; i += 24) {
            long[] packed = pack(bytes, i);
            length = x.feed(packed[0], packed[1], packed[2]);
        }
        return length;
    }

    static int county(OtterWrits x, String text) {
        feed(x, text);
        return x.county();
    }

    static int session(OtterWrits x, String text) {
        feed(x, text);
        return x.session();
    }

    /** A new object with this county. */
    static OtterWrits told(String text) {
        OtterWrits x = new OtterWrits();
        same("county of " + text, county(x, text), 0);
        return x;
    }

    /** The fault of a county is held against its kind and the place of the sign ^ in the text, which is left out. */
    static void countyFault(String text, int kind) {
        int at = text.indexOf('^');
        same("county: " + text, county(new OtterWrits(), text.replace("^", "")), kind + 16L * at);
    }

    static void sessionFault(OtterWrits x, String text, int kind) {
        int at = text.indexOf('^');
        same("session: " + text, session(x, text.replace("^", "")), kind + 16L * at);
    }

    static void end() {
        System.out.println(wrong == 0 ? "all answers are as due" : wrong + " answers are not as due");
        if (wrong != 0) {
            System.exit(1);
        }
    }
}
