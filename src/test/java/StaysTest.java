import java.lang.reflect.InvocationTargetException;
import java.lang.reflect.Method;
import java.lang.reflect.Modifier;
import java.util.ArrayList;
import java.util.List;
import java.util.NoSuchElementException;
import java.util.Set;

/** All promises: by whatever arguments, what asks leaves all as it was, what is refused does too, and only rests throws. */
public final class StaysTest {
    private static final int[] ODD = {Integer.MIN_VALUE, -3, -2, -1, 0, 1, 2, 3, 5, 6, 7, 9, 10, 60, 61, Integer.MAX_VALUE};
    private static final int[] FEW = {Integer.MIN_VALUE, -1, 0, 1, 6, 10, Integer.MAX_VALUE};
    private static final Set<String> READ = Set.of("feed", "county", "session");
    private static final Set<String> DONE = Set.of("take", "swim", "serve", "see", "mark", "undo");
    /** Calls by which an object may be used, but for those that look at all of it. */
    private static final int BATCH = 150;

    public static void main(String[] args) throws Exception {
        for (Method m : OtterWrits.class.getDeclaredMethods()) {
            if (Modifier.isPublic(m.getModifiers()) && !READ.contains(m.getName()) && !m.getName().equals("day")) {
                for (int state = 0; state < 3; state++) {
                    sweep(m, state);
                }
            }
        }
        Check.end();
    }

    private static OtterWrits made(int state) {
        if (state == 0) {
            return new OtterWrits();
        }
        OtterWrits x = Check.told(Tell.full());
        Check.session(x, "take oa wa;serve wa;day;swim oc pc;");
        if (state == 2) {
            x.take(0, 0);
            x.serve(0);
            x.take(1, 1);
            x.swim(1, 2);
            x.see(1, 3, true);
            x.mark(1, false);
            x.day();
            Check.feed(x, "day;");
        }
        return x;
    }

    private static void sweep(Method m, int state) throws Exception {
        List<Object[]> all = new ArrayList<>();
        fill(m.getParameterTypes(), new Object[m.getParameterCount()], 0, all);
        boolean asks = !DONE.contains(m.getName());
        for (int from = 0; from < all.size(); from += asks ? BATCH : 1) {
            OtterWrits x = made(state);
            String ahead = Check.all(x);
            boolean refused = true;
            for (int i = from; i < all.size() && i < from + (asks ? BATCH : 1); i++) {
                refused = isRefused(call(m, x, all.get(i)));
            }
            if (asks || refused) {
                Check.equal("all behind " + m.getName() + java.util.Arrays.toString(all.get(from)), Check.all(x), ahead);
            }
        }
    }

    private static boolean isRefused(Object answer) {
        return answer.equals(Boolean.FALSE) || answer.equals(-1);
    }

    private static void fill(Class<?>[] types, Object[] some, int at, List<Object[]> all) {
        if (at == types.length) {
            all.add(some.clone());
            return;
        }
        if (types[at] == boolean.class) {
            for (boolean each : new boolean[] {true, false}) {
                some[at] = each;
                fill(types, some, at + 1, all);
            }
            return;
        }
        for (int each : types.length > 2 ? FEW : ODD) {
            some[at] = each;
            fill(types, some, at + 1, all);
        }
    }

    private static Object call(Method m, OtterWrits x, Object[] args) throws Exception {
        try {
            return m.invoke(x, args);
        } catch (InvocationTargetException e) {
            Check.yes(m.getName() + java.util.Arrays.toString(args) + " throws " + e.getCause(),
                    m.getName().equals("rests") && e.getCause() instanceof NoSuchElementException);
            return -1;
        }
    }
}
