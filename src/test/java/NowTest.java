/** Promises 29 to 41: what hangs together, rain by what is seen, chance, answers at rest, sessions by draws. */
public final class NowTest {
    private static final int[] FAR = {-1, 7, 31, 32, Integer.MIN_VALUE, Integer.MAX_VALUE};

    public static void main(String[] args) {
        graph();
        bridges();
        warm();
        hunted();
        seen();
        look();
        chance();
        rests();
        sessions();
        Check.end();
    }

    private static void graph() {
        // a - b - c - d, a - e, f alone, g alone; c and f are dry.
        OtterWrits x = Check.told("place a water 1; place b water 2; place c water 0; place d water 3; place e water 1;"
                + "place f water 0; place g water 9; stream a b; stream c b; stream c d; stream a e;");
        int[] reach = {31, 31, 31, 31, 31, 32, 64};
        int[] pool = {19, 19, 0, 8, 19, 0, 64};
        int[] far = {0, 1, 2, 3, 1, -1, -1};
        for (int p = 0; p < 7; p++) {
            Check.same("reach(" + p + ")", x.reach(p), reach[p]);
            Check.same("pool(" + p + ")", x.pool(p), pool[p]);
            Check.same("far(0, " + p + ")", x.far(0, p), far[p]);
            Check.same("far(" + p + ", 0)", x.far(p, 0), far[p]);
            Check.same("far(" + p + ", " + p + ")", x.far(p, p), 0);
        }
        Check.same("far(4, 3)", x.far(4, 3), 4);
        Check.same("pools()", x.pools(), 3);
        Check.same("bridges()", x.bridges(), 4);
        for (int i : FAR) {
            Check.same("reach(" + i + ")", x.reach(i), -1);
            Check.same("pool(" + i + ")", x.pool(i), -1);
            Check.same("far(" + i + ", 0)", x.far(i, 0), -1);
            Check.same("far(0, " + i + ")", x.far(0, i), -1);
        }
        OtterWrits line = Check.told("place a water 1; place b water 1; place c water 1; place d water 1; place e water 1;"
                + "place f water 1; place g water 1; stream a g; stream g b; stream b f; stream f c; stream c e; stream e d;");
        Check.same("the farthest", line.far(0, 3), 6);
        Check.same("reach of a line", line.reach(3), 127);
        Check.same("pool of a line", line.pool(0), 127);
        Check.same("bridges of a line", line.bridges(), 6);
        Check.same("none wet", Check.told("place a water 0;").pools(), 0);
    }

    private static void bridges() {
        OtterWrits x = Check.told("place a water 1; place b water 1; place c water 1; place d water 0; place e water 1; place f water 1;"
                + "stream a b; stream b c; stream c a; stream c d; stream d e; stream e f;");
        Check.same("a ring and three bridges", x.bridges(), 3);
        Check.same("asked again", x.bridges(), 3);
        Check.same("streams stay", x.place(2, 1), 11);
        Check.same("none", Check.told("place a water 1;").bridges(), 0);
    }

    private static void warm() {
        String places = "place a water 1; place b water 1; place c water 1;";
        Check.same("nobody", Check.told(places).warm(), -1);
        Check.same("of equal ones the first", Check.told(places + "person p plain in c; person q plain in b;").warm(), 1);
        Check.same("the most", Check.told(places + "person p plain in a; person q plain in c; person r plain in c;").warm(), 2);
    }

    private static void hunted() {
        OtterWrits x = Check.told("place a water 1; person p plain in a; person q plain in a; otter o in a pace 1;"
                + "writ x for q by 1; writ y for q by 1; writ z for p by 1;");
        Check.same("the most", x.hunted(), 1);
        x.take(0, 0);
        Check.same("taken is not served", x.hunted(), 1);
        x.serve(0);
        Check.same("of equal ones the first", x.hunted(), 0);
        x.take(0, 2);
        x.serve(2);
        Check.same("one left", x.hunted(), 1);
        x.take(0, 1);
        x.serve(1);
        Check.same("none left", x.hunted(), -1);
        Check.same("no writs", Check.told("place a water 1; person p plain in a;").hunted(), -1);
    }

    private static void seen() {
        OtterWrits x = Check.told("place a water 2; place b water 0; rain 7;");
        Check.same("nothing is seen", x.rains(), 1023);
        Check.yes("a has 5 or more", x.see(0, 5, true));
        Check.same("4 to 9", x.rains(), 0b1111110000);
        Check.yes("b has less than 6", x.see(1, 6, false));
        Check.same("4 to 6", x.rains(), 0b0001110000);
        x.day();
        Check.same("as it is when asked: a has 8, b 6", x.rains(), 1);
        x.undo();
        Check.same("again", x.rains(), 0b0001110000);
        Check.yes("water 0 or more", x.see(0, 0, true));
        Check.yes("water 9 or less", x.see(1, 9, false));
        Check.same("no less", x.rains(), 0b0001110000);
        Check.no("water 10", x.see(0, 10, true));
        Check.no("water -1", x.see(0, -1, false));
        Check.no("place 2", x.see(2, 1, true));
        Check.no("place -1", x.see(-1, 1, true));
        Check.same("four", x.count(10), 4);
        for (int i = 4; i < 8; i++) {
            Check.yes("one more", x.see(1, 5, true));
        }
        Check.no("a ninth", x.see(1, 5, true));
        Check.same("eight", x.count(10), 8);
        Check.same("one rain", x.rains(), 0b0001000000);
        Check.yes("mark", x.mark(0, false));
        OtterWrits less = Check.told("place a water 2;");
        less.see(0, 0, false);
        Check.same("less than 0", less.rains(), 0);
        OtterWrits dated = Check.told("place a water 2; wets falls * (date + 1);");
        dated.see(0, 4, true);
        Check.same("by the date", dated.rains(), 0b1111110000);
        dated.day();
        Check.same("by the date, a day later", dated.rains(), 0b1111111100);
    }

    private static void look() {
        // a is capped at 9, so that rains of 3 and more look alike; b has falls - 1.
        OtterWrits x = Check.told("place a water 7; place b water 0;");
        Check.same("b at 4 parts 5 from 5", x.look(), 14);
        x.see(1, 7, true);
        Check.same("8, 9 are left", x.rains(), 0b1100000000);
        Check.same("b at 8", x.look(), 18);
        x.see(1, 8, true);
        Check.same("one is left", x.look(), -1);
        OtterWrits y = Check.told("place a water 1; place b water 1; ");
        Check.same("of equal ones the first place, then the least", y.look(), 5);
        Check.same("none parts them", Check.told("place a water 1; wets level;").look(), -1);
        OtterWrits z = Check.told("place a water 0; wets (8 < falls) * 3;");
        Check.same("the least of 1, 2, 3", z.look(), 1);
        z.see(0, 1, true);
        z.see(0, 1, false);
        Check.same("no rains", z.look(), -1);
        OtterWrits v = Check.told("place a water 5; wets 8 + (falls = 3);");
        Check.same("how much is 9", v.look(), 9);
        OtterWrits u = Check.told("place a water 0; place b water 0; stream a b; wets falls;");
        u.see(0, 6, true);
        Check.same("of these alone: 6, 7 from 8, 9", u.look(), 8);
        Check.same("no places", new OtterWrits().look(), -1);
    }

    private static void chance() {
        OtterWrits x = Check.told("place a water 0; place b water 2; rain 5;");
        Check.same("wet by one rain", x.chance(0, 1, 3), 300000);
        Check.same("not wet at odds 0", x.chance(0, 6, 0), 0);
        Check.same("wet at odds 10", x.chance(0, 6, 10), 1000000);
        Check.same("one of two days", x.chance(0, 2, 3), 510000);
        Check.same("b stays wet a day", x.chance(1, 1, 0), 1000000);
        Check.same("b is dry behind two", x.chance(1, 2, 0), 0);
        OtterWrits last = Check.told("place a water 0; wets falls;");
        Check.same("the last day alone", last.chance(0, 6, 7), 700000);
        OtterWrits all = Check.told("place a water 9; wets level and falls;");
        Check.same("all six", all.chance(0, 6, 1), 1);
        Check.same("all six by 9", all.chance(0, 6, 9), 531441);
        Check.same("all three", all.chance(0, 3, 2), 8000);
        OtterWrits dated = Check.told("place a water 0; wets date = 2;");
        Check.same("by the date", dated.chance(0, 3, 4), 1000000);
        Check.same("by the date, sooner", dated.chance(0, 2, 4), 0);
        for (int i : FAR) {
            Check.same("chance(" + i + ", 1, 1)", x.chance(i, 1, 1), -1);
            Check.same("chance(0, " + i + ", 1)", x.chance(0, i, 1), -1);
        }
        Check.same("no days", x.chance(0, 0, 1), -1);
        Check.same("odds -1", x.chance(0, 1, -1), -1);
        Check.same("odds 11", x.chance(0, 1, 11), -1);
        Check.same("day", x.count(5), 0);
    }

    private static void rests() {
        OtterWrits x = new OtterWrits();
        int[][] due = {
            // both, loses, gets, how many, the first, the second ..
            {4, 3, 6, 1, 0}, {6, 3, 4, 2, 0, 3}, {5, 0, 5, 4, 0, 1, 2, 3}, {5, 0, 9, 3, 0, 1, 2}, {9, 9, 9, 2, 0, 3}, {0, 9, 1, 1, 0},
            {0, 0, 0, 4, 0, 1, 2, 3}, {1, 0, 0, 2, 0, 3},
        };
        for (int[] row : due) {
            String call = "rests(" + row[0] + ", " + row[1] + ", " + row[2] + ", ";
            Check.same(call + "-1)", Check.rests(x, row[0], row[1], row[2], -1), row[3]);
            for (int i = 0; i < row[3]; i++) {
                Check.same(call + i + ")", Check.rests(x, row[0], row[1], row[2], i), row[4 + i]);
            }
            Check.same(call + row[3] + ")", Check.rests(x, row[0], row[1], row[2], row[3]), Check.THROWN);
        }
        for (int i : new int[] {-1, 10, Integer.MIN_VALUE, Integer.MAX_VALUE}) {
            Check.same("both " + i, Check.rests(x, i, 1, 1, -1), Check.THROWN);
            Check.same("loses " + i, Check.rests(x, 1, i, 1, -1), Check.THROWN);
            Check.same("gets " + i, Check.rests(x, 1, 1, i, -1), Check.THROWN);
        }
        for (int i : new int[] {-2, 4, Integer.MIN_VALUE, Integer.MAX_VALUE}) {
            Check.same("what " + i, Check.rests(x, 1, 1, 1, i), Check.THROWN);
        }
    }

    private static void sessions() {
        OtterWrits x = Check.told("place a water 5; person e dewy in a; person p plain in a; otter o in a pace 1;"
                + "writ w for e by 1; writ v for p by 2; wets 4 + date;");
        // The draws by hand: a taking, then a serving of one that was taken.
        for (int seed : new int[] {0, 1, 7, 9999}) {
            long g = seed;
            boolean[] taken = new boolean[2];
            boolean[] served = new boolean[2];
            int due = 0;
            for (int d = 0; d < 99; d++) {
                g = step(step(step(g)));
                int choice = (int) (g / 65536 % 5);
                if (choice >= 3) {
                    g = step(g);
                    int writ = (int) (g / 65536 % 2);
                    int with = (taken[0] && !served[0] ? 1 : 0) + (taken[1] && !served[1] ? 1 : 0);
                    if (choice == 3 && !taken[writ] && with < 2) {
                        taken[writ] = true;
                    } else if (choice == 4 && taken[writ] && !served[writ]) {
                        served[writ] = true;
                        due++;
                    }
                }
                Check.same("sessions(" + seed + ", " + (d + 1) + ", 0)", x.sessions(seed, d + 1, 0), due);
                x = d % 50 == 49 ? Check.told("place a water 5; person e dewy in a; person p plain in a; otter o in a pace 1;"
                        + "writ w for e by 1; writ v for p by 2; wets 4 + date;") : x;
            }
        }
        Check.same("water at last", x.sessions(0, 3, 1), 6);
        Check.same("persons in the ASSIZE", x.sessions(0, 3, 2), 3);
        Check.same("all is as ahead", x.count(5) * 100 + x.place(0, 0) * 10 + x.count(8), 50);
        for (int i : new int[] {-1, 10000, Integer.MIN_VALUE, Integer.MAX_VALUE}) {
            Check.same("seed " + i, x.sessions(i, 1, 0), -1);
        }
        for (int i : new int[] {0, 100, -1, Integer.MIN_VALUE, Integer.MAX_VALUE}) {
            Check.same("days " + i, x.sessions(0, i, 0), -1);
        }
        for (int i : new int[] {-1, 3, Integer.MIN_VALUE, Integer.MAX_VALUE}) {
            Check.same("what " + i, x.sessions(0, 1, i), -1);
        }
        OtterWrits still = Check.told("place a water 3; place b water 4; stream a b; person h bather in a; wets level - 1;");
        Check.same("without otters the days go by", still.sessions(5, 2, 1), 3);
        Check.same("the bather has gone", still.sessions(5, 1, 2), 0);
        x.take(0, 0);
        x.serve(0);
        Check.same("served ahead of these does not count", x.sessions(0, 1, 0), 0);
    }

    private static long step(long g) {
        return (g * 1103515245L + 12345L) % 2147483648L;
    }
}
