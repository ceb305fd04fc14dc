import java.util.NoSuchElementException;

/** The example of README.md: a county is told, asked, gone through by hand, judged, undone. */
public final class Example {
    private static void feed(OtterWrits x, String text) {
        for (int from = 0; from < text.length(); from += 24) {
            long[] signs = new long[3];
            for (int i = 0; i < 24; i++) {
                long sign = from + i < text.length() ? text.charAt(from + i) : 0;
                signs[i / 8] = signs[i / 8] << 8 | sign;
            }
            x.feed(signs[0], signs[1], signs[2]);
        }
    }

    private static void tell(String call, Object answer) {
        System.out.println(call + " " + answer);
    }

    public static void main(String[] args) {
        OtterWrits x = new OtterWrits();

        feed(x, "place assize water 12;");
        tell("county", x.county());             // fault 4, the NUMBER at sign 19: 4 + 16 * 19
        feed(x, "place assize water 3; place weir water 2; stream assize weir;"
                + "person heiress plain in weir; otter old in assize pace 1;"
                + "writ cause for heiress by 4; rain 0 2; wets level + falls - 1;");
        tell("county", x.county());

        tell("serves", x.serves(0, 0));         // today: one swim
        tell("dry", x.dry(1));                  // not by 60 days
        tell("chance", x.chance(1, 2, 5));      // two days, a rain of 9 by 5 of ten on each

        tell("take", x.take(0, 0));
        tell("swim", x.swim(0, 1));
        tell("serve", x.serve(0));              // otter 0 served it
        tell("day", x.day());                   // places 0 and 1 are wet then
        tell("served", x.count(8));
        tell("undo", x.undo());
        tell("the day", x.count(5));

        feed(x, "serve cause; take old cause; swim old weir; serve cause;");
        tell("session", x.session());
        tell("judged", x.judged(0));            // line 0 can't be
        tell("judged", x.judged(1));            // line 3 is the first that serves
        tell("judged", x.judged(2));

        tell("no such place", x.place(2, 0));
        try {
            x.rests(4, 3, 6, 1);                // there is one answer at rest only
        } catch (NoSuchElementException e) {
            tell("rests", "threw");
        }
    }
}
