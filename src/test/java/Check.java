import java.nio.charset.StandardCharsets;
import java.util.NoSuchElementException;
import java.util.function.BooleanSupplier;
import java.util.function.IntSupplier;

/** What the tests share: texts fed to an object, and answers held against those that are due. */
final class Check {
    static final int THROWN = Integer.MIN_VALUE;
    /** Stands ahead of what is told of a wrong answer. */
    static String about = "";
    private static int wrong;

    private Check() {
    }

    static void same(String call, long got, long due) {
        if (got != due) {
            wrong++;
            System.out.println(about + call + " answered " + got + ", due is " + due);
        }
    }

    static void yes(String call, boolean got) {
        same(call, got ? 1 : 0, 1);
    }

    static void no(String call, boolean got) {
        same(call, got ? 1 : 0, 0);
    }

    static int rests(OtterWrits x, int both, int loses, int gets, int what) {
        try {
            return x.rests(both, loses, gets, what);
        } catch (NoSuchElementException e) {
            return THROWN;
        }
    }

    static long[] pack(byte[] bytes, int from) {
        long[] packed = new long[3];
        for (int i = 0; i < 24; i++) {
            int sign = from + i < bytes.length ? bytes[from + i] & 255 : 0;
            packed[i / 8] = packed[i / 8] << 8 | sign;
        }
        return packed;
    }

    static int feed(OtterWrits x, String text) {
        byte[] bytes = text.getBytes(StandardCharsets.ISO_8859_1);
        int length = x.count(12);
        for (int i = 0; i < bytes.length; i += 24) {
            long[] packed = pack(bytes, i);
            length = x.feed(packed[0], packed[1], packed[2]);
        }
        return length;
    }

    static int county(OtterWrits x, String text) {
        feed(x, text);
        return x.county();
    }

    static int session(OtterWrits x, String text) {
        feed(x, text);
        return x.session();
    }

    /** A new object with this county. */
    static OtterWrits told(String text) {
        OtterWrits x = new OtterWrits();
        same("county of " + text, county(x, text), 0);
        return x;
    }

    /** The fault of a county is held against its kind and the place of the sign ^ in the text, which is left out. */
    static void countyFault(String text, int kind) {
        int at = text.indexOf('^');
        same("county: " + text, county(new OtterWrits(), text.replace("^", "")), kind + 16L * at);
    }

    static void sessionFault(OtterWrits x, String text, int kind) {
        int at = text.indexOf('^');
        same("session: " + text, session(x, text.replace("^", "")), kind + 16L * at);
    }

    /** All that can be asked of how it is, of the session, of what is seen and of the law: some hundred calls. */
    static String all(OtterWrits x) {
        StringBuilder s = new StringBuilder();
        int places = x.count(0);
        int persons = x.count(2);
        int otters = x.count(3);
        int writs = x.count(4);
        for (int what = 0; what <= 12; what++) {
            s.append(x.count(what)).append(' ');
        }
        for (int p = 0; p < places; p++) {
            s.append("| ").append(x.place(p, 0)).append(' ').append(x.place(p, 1)).append(' ').append(x.place(p, 2)).append(' ')
                    .append(x.place(p, 3)).append(' ').append(x.later(p, 1)).append(' ');
        }
        for (int q = 0; q < persons; q++) {
            s.append("| ").append(x.person(q, 0)).append(' ').append(x.person(q, 1)).append(' ');
        }
        for (int o = 0; o < otters; o++) {
            s.append("| ").append(x.otter(o, 0)).append(' ').append(x.otter(o, 2)).append(' ').append(x.otter(o, 3)).append(' ');
        }
        for (int w = 0; w < writs; w++) {
            s.append("| ").append(x.writ(w, 0)).append(' ').append(x.writ(w, 1)).append(' ').append(x.writ(w, 2)).append(' ');
        }
        return s.append("| ").append(x.judged(0)).append(' ').append(x.judged(1)).append(' ').append(x.judged(2)).append(' ')
                .append(x.rains()).toString();
    }

    static void equal(String call, String got, String due) {
        if (!got.equals(due)) {
            wrong++;
            System.out.println(about + call + " answered " + got + ", due is " + due);
        }
    }

    /** The call answers what is due, and all stays as it was. */
    static void stays(String call, OtterWrits x, IntSupplier asked, long due) {
        String ahead = all(x);
        same(call, asked.getAsInt(), due);
        equal("all behind " + call, all(x), ahead);
    }

    static void refused(String call, OtterWrits x, BooleanSupplier asked) {
        stays(call, x, () -> asked.getAsBoolean() ? 1 : 0, 0);
    }

    static void end() {
        System.out.println(wrong == 0 ? "all answers are as due" : wrong + " answers are not as due");
        if (wrong != 0) {
            System.exit(1);
        }
    }
}
