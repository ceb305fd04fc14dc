/** Promises 1, 5 to 14, 26 to 28, 42, 43: how it is, what is done by hand, undone, marked, judged. */
public final class HandTest {
    private static final String COUNTY = "place a water 2; place b water 1; place c water 0; place d water 5;"
            + "stream a b; stream b c; stream c d;"
            + "person p plain in b; person w wary in d; person h bather in c; person e dewy in c;"
            + "otter o in a pace 1; otter r in d pace 3; otter s in a pace 2;"
            + "writ x for p by 2; writ y for w by 0; writ z for e by 60; writ u for p by 1; rain 0 2 1;";

    public static void main(String[] args) {
        aNewObject();
        howItIs();
        others();
        taking();
        swimming();
        serving();
        kindsServed();
        days();
        whoGoesWhere();
        undone();
        lateAndMay();
        marks();
        judged();
        Check.end();
    }

    private static void aNewObject() {
        OtterWrits x = new OtterWrits();
        for (int what = -2; what <= 14; what++) {
            Check.same("new: count(" + what + ")", x.count(what), what < 0 || what > 12 ? -1 : what == 6 ? 1 : 0);
        }
        Check.same("new: place(0, 0)", x.place(0, 0), -1);
        Check.same("new: person(0, 0)", x.person(0, 0), -1);
        Check.same("new: otter(0, 0)", x.otter(0, 0), -1);
        Check.same("new: writ(0, 0)", x.writ(0, 0), -2);
        Check.no("new: take(0, 0)", x.take(0, 0));
        Check.same("new: swim(0, 0)", x.swim(0, 0), -1);
        Check.same("new: serve(0)", x.serve(0), -1);
        Check.no("new: undo()", x.undo());
        Check.no("new: may(0)", x.may(0));
        Check.no("new: see(0, 0, true)", x.see(0, 0, true));
        Check.no("new: mark(0, true)", x.mark(0, true));
        Check.yes("new: mark(0, false)", x.mark(0, false));
        Check.same("new: safe(0, 1)", x.safe(0, 1), -1);
        Check.same("new: intime(0)", x.intime(0), -1);
        Check.same("new: can(0)", x.can(0), -1);
        Check.same("new: reach(0)", x.reach(0), -1);
        Check.same("new: chance(0, 1, 1)", x.chance(0, 1, 1), -1);
        Check.same("new: sessions(0, 1, 2)", x.sessions(0, 1, 2), 0);
    }

    private static void howItIs() {
        OtterWrits x = Check.told(COUNTY);
        int[][] places = {{2, 2, 0, 5}, {1, 5, 1, 0}, {0, 10, 12, 0}, {5, 4, 2, 2}};
        int[][] persons = {{0, 1}, {1, 3}, {2, 2}, {3, 2}};
        int[][] otters = {{1, 0, 0, 0}, {3, 3, 0, 0}, {2, 0, 0, 0}};
        int[][] writs = {{0, 2, -1}, {1, 0, -1}, {3, 60, -1}, {0, 1, -1}};
        for (int i = 0; i < 4; i++) {
            for (int what = 0; what < 4; what++) {
                Check.same("place(" + i + ", " + what + ")", x.place(i, what), places[i][what]);
            }
            for (int what = 0; what < 2; what++) {
                Check.same("person(" + i + ", " + what + ")", x.person(i, what), persons[i][what]);
            }
            for (int what = 0; what < 4 && i < 3; what++) {
                Check.same("otter(" + i + ", " + what + ")", x.otter(i, what), otters[i][what]);
            }
            for (int what = 0; what < 3; what++) {
                Check.same("writ(" + i + ", " + what + ")", x.writ(i, what), writs[i][what]);
            }
        }
        int[] counts = {4, 3, 4, 3, 4, 0, 0, 11, 0, 0, 0, 0, 0};
        for (int what = 0; what < counts.length; what++) {
            Check.same("count(" + what + ")", x.count(what), counts[what]);
        }
    }

    private static void others() {
        OtterWrits x = Check.told(COUNTY);
        int[] far = {-1, 4, 7, 31, 32, Integer.MIN_VALUE, Integer.MAX_VALUE};
        for (int i : far) {
            Check.same("place(" + i + ", 0)", x.place(i, 0), -1);
            Check.same("place(0, " + i + ")", x.place(0, i), -1);
            Check.same("person(" + i + ", 0)", x.person(i, 0), -1);
            Check.same("person(0, " + i + ")", x.person(0, i), -1);
            Check.same("otter(" + i + ", 0)", x.otter(i, 0), -1);
            Check.same("otter(0, " + i + ")", x.otter(0, i), -1);
            Check.same("writ(" + i + ", 0)", x.writ(i, 0), -2);
            Check.same("writ(0, " + i + ")", x.writ(0, i), -2);
            Check.no("take(" + i + ", 0)", x.take(i, 0));
            Check.no("take(0, " + i + ")", x.take(0, i));
            Check.same("swim(" + i + ", 1)", x.swim(i, 1), -1);
            Check.same("swim(0, " + i + ")", x.swim(0, i), -1);
            Check.same("serve(" + i + ")", x.serve(i), -1);
            Check.no("may(" + i + ")", x.may(i));
            Check.same("can(" + i + ")", x.can(i), -1);
            Check.no("mark(" + i + ", false)", x.mark(i, false));
            Check.no("mark(" + i + ", true)", x.mark(i, true));
            Check.same("judged(" + i + ")", x.judged(i), -2);
        }
        Check.same("person(0, 2)", x.person(0, 2), -1);
        Check.same("otter(3, 0)", x.otter(3, 0), -1);
        Check.same("writ(0, 3)", x.writ(0, 3), -2);
        Check.same("nothing was done", x.count(11), 0);
    }

    private static void taking() {
        OtterWrits x = Check.told(COUNTY);
        Check.yes("take(0, 0)", x.take(0, 0));
        Check.same("it has it", x.writ(0, 2), 0);
        Check.no("taken already, by itself", x.take(0, 0));
        Check.no("taken already, by another", x.take(2, 0));
        Check.no("not in the ASSIZE", x.take(1, 1));
        Check.yes("take(0, 2)", x.take(0, 2));
        Check.no("two already", x.take(0, 1));
        Check.same("otter(0, 3)", x.otter(0, 3), 5);
        Check.yes("by another one", x.take(2, 1));
        Check.same("otter(2, 3)", x.otter(2, 3), 2);
        Check.same("swum", x.otter(0, 2), 0);
        Check.same("three were taken", x.count(11), 3);
        x.swim(0, 1);
        Check.same("serve(0)", x.serve(0), 0);
        Check.same("one is served, so one more fits", x.otter(0, 3), 4);
        x.day();
        Check.no("not in the ASSIZE now", x.take(0, 3));
        OtterWrits dry = Check.told("place a water 0; person p dewy in a; otter o in a pace 1; writ w for p by 1;");
        Check.yes("taken in a dry ASSIZE", dry.take(0, 0));
        Check.same("served there", dry.serve(0), 0);
        Check.no("served is not there", dry.take(0, 0));
    }

    private static void swimming() {
        OtterWrits x = Check.told(COUNTY);
        Check.same("to where it is", x.swim(0, 0), -1);
        Check.same("no stream", x.swim(0, 3), -1);
        Check.same("can(0)", x.can(0), 2);
        Check.same("can(1): a dry one", x.can(1), 0);
        Check.same("to a dry one", x.swim(1, 2), -1);
        Check.same("swim(0, 1)", x.swim(0, 1), 1);
        Check.same("it is there", x.otter(0, 1), 1);
        Check.same("otters in b", x.place(1, 3), 1);
        Check.same("pace 1", x.swim(0, 0), -1);
        Check.same("can(0) by its pace", x.can(0), 0);
        Check.same("swim(2, 1)", x.swim(2, 1), 1);
        Check.same("swim(2, 0)", x.swim(2, 0), 2);
        Check.same("pace 2", x.swim(2, 1), -1);
        x.day();
        Check.same("swum on a new day", x.otter(2, 2), 0);
        Check.same("from a dry one", x.swim(0, 0), -1);
        Check.same("can(0) from a dry one", x.can(0), 0);
        Check.same("to a dry one", x.swim(2, 1), -1);
        x.day();
        Check.same("all are wet", x.swim(1, 2), 1);
        Check.same("on", x.swim(1, 1), 2);
        Check.same("and on", x.swim(1, 0), 3);
        Check.same("pace 3", x.swim(1, 1), -1);
    }

    private static void serving() {
        OtterWrits x = Check.told(COUNTY);
        Check.same("at the ASSIZE", x.serve(0), -1);
        x.take(2, 0);
        x.take(2, 3);
        Check.no("another place", x.may(0));
        Check.same("another place", x.serve(0), -1);
        x.swim(2, 1);
        Check.yes("may(0)", x.may(0));
        Check.same("serve(0)", x.serve(0), 2);
        Check.same("writ(0, 2)", x.writ(0, 2), 3);
        Check.no("may(0) of one served", x.may(0));
        Check.same("served already", x.serve(0), -1);
        Check.same("served", x.count(8), 1);
        x.day();
        Check.no("dry", x.may(3));
        Check.same("dry", x.serve(3), -1);
        x.day();
        Check.same("wet again", x.serve(3), 2);
        Check.same("served", x.count(8), 9);
    }

    private static void kindsServed() {
        String[] kinds = {"plain", "wary", "bather", "dewy"};
        int[] least = {1, 3, 1, 0};
        for (int k = 0; k < 4; k++) {
            for (int water = 0; water <= 9; water++) {
                OtterWrits x = Check.told("place a water " + water + "; person p " + kinds[k]
                        + " in a; otter o in a pace 1; writ w for p by 1;");
                x.take(0, 0);
                Check.same(kinds[k] + " by " + water, x.serve(0), water >= least[k] ? 0 : -1);
            }
        }
    }

    private static void days() {
        OtterWrits x = Check.told(COUNTY);
        int[] wet = {9, 15, 15, 9, 15, 15, 9};
        int[] rain = {0, 2, 1};
        int[][] water = {{2, 1, 0, 5}, {1, 0, 0, 4}, {2, 1, 1, 5}, {2, 1, 1, 5}, {1, 0, 0, 4}, {2, 1, 1, 5}, {2, 1, 1, 5}};
        for (int d = 0; d < 7; d++) {
            Check.same("the day", x.count(5), d);
            Check.same("its rain", x.count(6), rain[d % 3]);
            for (int p = 0; p < 4; p++) {
                Check.same("water of " + p + " on " + d, x.place(p, 0), water[d][p]);
            }
            Check.same("day() on " + d, x.day(), wet[d]);
            Check.same("count(7)", x.count(7), wet[d]);
        }
    }

    private static void whoGoesWhere() {
        OtterWrits x = Check.told(COUNTY);
        x.day();
        Check.same("plain stays", x.person(0, 1), 1);
        Check.same("wary goes to the least", x.person(1, 1), 2);
        Check.same("bather goes to the most", x.person(2, 1), 3);
        Check.same("dewy stays", x.person(3, 1), 2);
        x.day();
        Check.same("wary stays of equal ones", x.person(1, 1), 2);
        String star = "place a water 5; place b water 5; place c water 5; place d water 5; place e water 5;"
                + "stream e d; stream e c; stream e b; stream a b; person w wary in e; person h bather in e;";
        OtterWrits y = Check.told(star + "wets (ways = 1) * 2 + (ways = 3) * 5;");
        y.day();
        Check.same("water of a, c, d is 2, of b 0, of e 5", y.place(1, 0) * 100 + y.place(3, 0) * 10 + y.place(4, 0), 25);
        Check.same("to the least", y.person(0, 1), 1);
        Check.same("stays at the most", y.person(1, 1), 4);
        OtterWrits z = Check.told(star + "wets 3 - (ways = 1) + (ways = 2);");
        z.day();
        Check.same("to the first of the least (c, d)", z.person(0, 1), 2);
        Check.same("to the most (b)", z.person(1, 1), 1);
        OtterWrits v = Check.told("place a water 1; place b water 2; place c water 2; place d water 0; place e water 0;"
                + "stream a e; stream a d; stream a c; stream a b; person h bather in a; person w wary in a; wets level;");
        v.day();
        Check.same("the first of the most, however told", v.person(0, 1), 1);
        Check.same("the first of the least, however told", v.person(1, 1), 3);
        v.day();
        Check.same("stays", v.person(0, 1), 1);
        Check.same("stays", v.person(1, 1), 3);
    }

    private static void undone() {
        OtterWrits x = Check.told(COUNTY);
        x.take(2, 0);
        x.swim(2, 1);
        x.serve(0);
        x.day();
        x.see(0, 1, true);
        Check.session(x, "day;");
        Check.same("what can be undone", x.count(11), 4);
        Check.yes("undo the day", x.undo());
        Check.same("day", x.count(5), 0);
        Check.same("water", x.place(0, 0), 2);
        Check.same("wary is back", x.person(1, 1), 3);
        Check.same("swum", x.otter(2, 2), 1);
        Check.same("later is as then", x.later(0, 1), 1);
        Check.yes("undo the serving", x.undo());
        Check.same("with the otter", x.writ(0, 2), 2);
        Check.yes("undo the swimming", x.undo());
        Check.same("in the ASSIZE", x.otter(2, 1), 0);
        Check.same("not swum", x.otter(2, 2), 0);
        Check.yes("undo the taking", x.undo());
        Check.same("at the ASSIZE", x.writ(0, 2), -1);
        Check.no("nothing can be", x.undo());
        Check.same("seen stays", x.count(10), 1);
        Check.same("the session stays", x.count(9), 1);
        for (int i = 0; i < 20; i++) {
            x.day();
            Check.same("at most 16", x.count(11), Math.min(i + 1, 16));
        }
        for (int i = 0; i < 16; i++) {
            Check.yes("undo", x.undo());
            Check.same("day", x.count(5), 19 - i);
        }
        Check.no("the 17th", x.undo());
        Check.same("day", x.count(5), 4);
        Check.no("what can't be is nothing to undo", x.take(1, 0));
        Check.same("none", x.count(11), 0);
    }

    private static void lateAndMay() {
        OtterWrits x = Check.told(COUNTY);
        Check.same("late on 0", x.late(), 0);
        x.day();
        Check.same("late on 1", x.late(), 2);
        x.day();
        Check.same("late on 2", x.late(), 10);
        x.take(0, 0);
        x.take(0, 3);
        x.swim(0, 1);
        x.serve(3);
        Check.same("a served one is not late", x.late(), 2);
        x.day();
        Check.same("late on 3, with an otter", x.late(), 3);
    }

    private static void marks() {
        OtterWrits x = Check.told(COUNTY);
        Check.no("nothing is on it", x.mark(3, true));
        x.take(0, 0);
        x.see(1, 2, false);
        Check.session(x, "day; day;");
        Check.yes("mark(3)", x.mark(3, false));
        Check.same("laying leaves what can be undone", x.count(11), 1);
        x.swim(0, 1);
        x.day();
        x.see(1, 3, true);
        Check.session(x, "day;");
        Check.yes("mark(0)", x.mark(0, false));
        Check.feed(x, "abc");
        Check.yes("back to 3", x.mark(3, true));
        Check.same("day", x.count(5), 0);
        Check.same("otter", x.otter(0, 1), 0);
        Check.same("writ", x.writ(0, 2), 0);
        Check.same("lines", x.count(9), 2);
        Check.same("seen", x.count(10), 1);
        Check.same("rains by what is seen", x.rains(), 3);
        Check.same("nothing can be undone", x.count(11), 0);
        Check.no("undo", x.undo());
        Check.same("later is as then", x.later(3, 0), 5);
        Check.same("the tape stays", x.count(12), 3);
        x.day();
        Check.yes("back to 0", x.mark(0, true));
        Check.same("day", x.count(5), 1);
        Check.same("seen", x.count(10), 2);
        Check.same("lines", x.count(9), 1);
        Check.yes("back to 3 again", x.mark(3, true));
        Check.same("day", x.count(5), 0);
        Check.no("nothing on 1", x.mark(1, true));
        marksOfOtherThings();
        Check.no("none such", x.mark(4, false));
        Check.no("none such", x.mark(-1, true));
    }

    private static void marksOfOtherThings() {
        OtterWrits x = Check.told("place a water 1; place b water 5; otter o in a pace 1; person p plain in a; writ w for p by 1;");
        x.mark(0, false);
        x.see(0, 3, true);
        Check.session(x, "day; take o w;");
        Check.same("by the first", x.rains(), 0b1111111000);
        x.mark(1, false);
        x.mark(0, true);
        Check.same("nothing is seen", x.rains(), 1023);
        x.see(1, 7, false);
        Check.session(x, "take o w; serve w; swim o b;");
        Check.same("by the second", x.rains(), 0b0000000111);
        Check.same("judged by the second", x.judged(0), 2);
        x.mark(2, false);
        Check.yes("back to 1", x.mark(1, true));
        Check.same("by the first again", x.rains(), 0b1111111000);
        Check.same("judged by the first", x.judged(0), -1);
        Check.yes("back to 2", x.mark(2, true));
        Check.same("by the second again", x.rains(), 0b0000000111);
        Check.same("judged by the second again", x.judged(1), 1);
        Check.yes("laid anew", x.mark(1, false));
        Check.yes("back to 1", x.mark(1, true));
        Check.same("as it was laid last", x.rains(), 0b0000000111);
    }

    private static void judged() {
        OtterWrits x = Check.told(COUNTY);
        Check.same("no session, 0", x.judged(0), -1);
        Check.same("no session, 1", x.judged(1), -1);
        Check.same("no session, 2", x.judged(2), 0);
        Check.session(x, "take s x; take s u; take s y; swim s b; serve x; serve y; day; serve u; day; serve u; swim r a;");
        Check.same("the first that can't be", x.judged(0), 2);
        Check.same("the first that serves", x.judged(1), 4);
        Check.same("how many are served", x.judged(2), 2);
        x.take(0, 0);
        x.day();
        x.day();
        Check.same("from the beginning, 0", x.judged(0), 2);
        Check.same("from the beginning, 1", x.judged(1), 4);
        Check.same("from the beginning, 2", x.judged(2), 2);
        Check.same("all stays", x.count(5) * 100 + x.count(11) * 10 + x.count(8), 230);
        Check.session(x, "take o x; swim o b; serve x; day;");
        Check.same("all can be", x.judged(0), -1);
        Check.same("line 2", x.judged(1), 2);
        Check.same("one", x.judged(2), 1);
        Check.session(x, "serve x;");
        Check.same("line 0 can't be", x.judged(0), 0);
        Check.same("none is", x.judged(1), -1);
        Check.same("none", x.judged(2), 0);
    }
}
