/** Promises 15 to 25: days going by, how soon an otter is where, which should serve which. */
public final class AheadTest {
    private static final String COUNTY = "place a water 2; place b water 1; place c water 0; place d water 5;"
            + "stream a b; stream b c; stream c d;"
            + "person p plain in b; person w wary in d; person h bather in c; person e dewy in c;"
            + "otter o in a pace 1; otter r in d pace 3;"
            + "writ x for p by 2; writ y for w by 0; writ z for e by 60; rain 0 2 1;";
    private static final int[] FAR = {-1, 7, 31, 32, Integer.MIN_VALUE, Integer.MAX_VALUE};

    public static void main(String[] args) {
        laterAndWhere();
        dryWetFlood();
        crest();
        safe();
        soon();
        serves();
        intime();
        share();
        shareOfEquals();
        others();
        askingChangesNothing();
        Check.end();
    }

    private static void laterAndWhere() {
        OtterWrits x = Check.told(COUNTY);
        int[][] water = {{2, 1, 0, 5}, {1, 0, 0, 4}, {2, 1, 1, 5}, {2, 1, 1, 5}, {1, 0, 0, 4}, {2, 1, 1, 5}, {2, 1, 1, 5}};
        for (int d = 6; d >= 0; d--) {
            for (int p = 0; p < 4; p++) {
                Check.same("later(" + p + ", " + d + ")", x.later(p, d), water[d][p]);
            }
        }
        Check.same("later(3, 60)", x.later(3, 60), 5);
        Check.same("later(3, 58)", x.later(3, 58), 4);
        Check.same("later(3, 61)", x.later(3, 61), -1);
        Check.same("later(3, -1)", x.later(3, -1), -1);
        int[][] where = {{1, 3, 2, 2}, {1, 2, 3, 2}, {1, 2, 3, 2}};
        for (int d = 0; d < 3; d++) {
            for (int q = 0; q < 4; q++) {
                Check.same("where(" + q + ", " + d + ")", x.where(q, d), where[d][q]);
            }
        }
        Check.same("where(2, 60)", x.where(2, 60), 3);
        Check.same("where(2, 61)", x.where(2, 61), -1);
        Check.same("where(2, -1)", x.where(2, -1), -1);
        x.day();
        Check.same("from day 1, later(0, 1)", x.later(0, 1), 2);
        Check.same("from day 1, where(1, 0)", x.where(1, 0), 2);
    }

    private static void dryWetFlood() {
        OtterWrits x = Check.told(COUNTY);
        int[] dry = {-1, 1, 0, -1};
        int[] wet = {0, 0, 2, 0};
        for (int p = 0; p < 4; p++) {
            Check.same("dry(" + p + ")", x.dry(p), dry[p]);
            Check.same("wet(" + p + ")", x.wet(p), wet[p]);
        }
        Check.same("flood()", x.flood(), 2);
        x.day();
        Check.same("from day 1, flood()", x.flood(), 1);
        OtterWrits edge = Check.told("place a water 0; place b water 9; wets (ways = 0) * (date = 59);");
        Check.same("wet behind 60", edge.wet(0), 60);
        Check.same("flood behind 60", edge.flood(), 60);
        OtterWrits late = Check.told("place a water 0; wets date = 60;");
        Check.same("wet behind 61", late.wet(0), -1);
        Check.same("no flood by 60", late.flood(), -1);
        OtterWrits ebb = Check.told("place a water 9; wets 1 - (date = 59);");
        Check.same("dry behind 60", ebb.dry(0), 60);
        Check.same("not by 60", Check.told("place a water 9; wets 1 - (date = 60);").dry(0), -1);
        Check.same("no places", new OtterWrits().flood(), 0);
    }

    private static void crest() {
        OtterWrits x = Check.told(COUNTY);
        int[] due = {0, 0, 2, 0};
        for (int p = 0; p < 4; p++) {
            Check.same("crest(" + p + ")", x.crest(p), due[p]);
        }
        Check.same("crest at the end", Check.told("place a water 1; wets 1 + (date = 59);").crest(0), 60);
        Check.same("crest behind the end", Check.told("place a water 1; wets 1 + (date = 60);").crest(0), 0);
    }

    private static void safe() {
        OtterWrits x = Check.told(COUNTY);
        Check.same("plain, 1", x.safe(0, 1), 4);
        Check.same("plain, 2", x.safe(0, 2), 0);
        Check.same("wary, 60", x.safe(1, 60), 7);
        Check.same("bather, 1", x.safe(2, 1), 4);
        Check.same("dewy, 1", x.safe(3, 1), 0);
        Check.same("no days", x.safe(0, 0), -1);
        Check.same("61 days", x.safe(0, 61), -1);
        OtterWrits edge = Check.told("place a water 2; person w wary in a; wets 2 + (date = 4);");
        Check.same("up to 4 days", edge.safe(0, 4), 1);
        Check.same("up to 5 days", edge.safe(0, 5), 0);
    }

    private static void soon() {
        OtterWrits x = Check.told(COUNTY);
        int[][] due = {{0, 0, 2, 3}, {2, 2, 2, 0}};
        for (int o = 0; o < 2; o++) {
            for (int p = 0; p < 4; p++) {
                Check.same("soon(" + o + ", " + p + ")", x.soon(o, p), due[o][p]);
            }
        }
        x.swim(0, 1);
        Check.same("what it has swum today counts", x.soon(0, 0), 2);
        OtterWrits apart = Check.told("place a water 1; place b water 1; otter o in a pace 3;");
        Check.same("never", apart.soon(0, 1), -1);
        OtterWrits edge = Check.told("place a water 9; place b water 0; stream a b; otter o in a pace 1; wets level - (date = 98) + (date = 59);");
        Check.same("behind 60", edge.soon(0, 1), 60);
        OtterWrits past = Check.told("place a water 9; place b water 0; stream a b; otter o in a pace 1; wets level + (date = 60);");
        Check.same("behind 61", past.soon(0, 1), -1);
    }

    private static void serves() {
        OtterWrits x = Check.told(COUNTY);
        int[][] due = {{0, 3}, {-1, -1}, {2, 3}};
        for (int w = 0; w < 3; w++) {
            for (int o = 0; o < 2; o++) {
                Check.same("serves(" + w + ", " + o + ")", x.serves(w, o), due[w][o]);
            }
        }
        x.take(0, 0);
        Check.same("with it", x.serves(0, 0), 0);
        Check.same("with another one", x.serves(0, 1), -1);
        x.swim(0, 1);
        x.serve(0);
        Check.same("served", x.serves(0, 0), -1);
        Check.same("it has to be in the ASSIZE first", x.serves(2, 0), 5);
        String fetch = "place a water 5; place b water 5; stream a b; person p plain in b; otter o in b pace 2; otter s in b pace 1;"
                + "writ x for p by 9; writ y for p by 9; writ z for p by 9; wets 5;";
        OtterWrits y = Check.told(fetch);
        Check.same("there and back", y.serves(0, 0), 0);
        Check.same("there and back by pace 1", y.serves(0, 1), 1);
        y.swim(0, 0);
        y.take(0, 0);
        y.take(0, 1);
        Check.same("whatever else it has", y.serves(2, 0), 0);
        OtterWrits gone = Check.told("place a water 5; place b water 5; place c water 5; stream a b; stream b c;"
                + "person h bather in c; otter o in a pace 1; writ w for h by 9; wets 3 + ways;");
        Check.same("the person goes to meet it", gone.serves(0, 0), 1);
        String slow = "place a water 9; place b water 0; stream a b; person p plain in b; otter o in a pace 1; writ w for p by 60; wets level + ";
        Check.same("behind 60", Check.told(slow + "(date = 59);").serves(0, 0), 60);
        Check.same("behind 60, in time", Check.told(slow + "(date = 59);").intime(0), 1);
        Check.same("behind 61", Check.told(slow + "(date = 60);").serves(0, 0), -1);
        OtterWrits dew = Check.told("place a water 0; person e dewy in a; otter o in a pace 1; writ w for e by 9;");
        Check.same("by a dew", dew.serves(0, 0), 0);
    }

    private static void intime() {
        OtterWrits x = Check.told(COUNTY);
        int[] due = {1, 0, 3};
        for (int w = 0; w < 3; w++) {
            Check.same("intime(" + w + ")", x.intime(w), due[w]);
        }
        OtterWrits edge = Check.told("place a water 1; place b water 1; stream a b; person p plain in b; otter o in b pace 1;"
                + "otter s in a pace 1; writ x for p by 1; writ y for p by 0;");
        Check.same("on its day", edge.intime(0), 3);
        Check.same("behind its day", edge.intime(1), 2);
        edge.day();
        Check.same("a day later", edge.intime(0), 2);
        edge.day();
        Check.same("late", edge.intime(0), 0);
    }

    private static void share() {
        OtterWrits x = Check.told(COUNTY);
        int[] due = {2, 3};
        Check.same("how many", x.share(-1), due[0]);
        Check.same("the days", x.share(-2), due[1]);
        Check.same("of o", x.share(0), 0);
        Check.same("of r", x.share(1), 2);
        Check.same("no third otter", x.share(2), -3);
        Check.same("others", x.share(-3), -3);
        Check.same("others", x.share(Integer.MAX_VALUE), -3);
        Check.same("others", x.share(Integer.MIN_VALUE), -3);
        x.take(0, 2);
        Check.same("z is with o: how many", x.share(-1), 2);
        Check.same("z is with o: the days", x.share(-2), 5);
        Check.same("z is with o: of o", x.share(0), 2);
        Check.same("z is with o: of r", x.share(1), 0);
    }

    private static void shareOfEquals() {
        String one = "place a water 5; person p plain in a; otter o in a pace 1; otter s in a pace 1; otter t in a pace 1;"
                + "writ x for p by 9; ";
        OtterWrits x = Check.told(one);
        Check.same("one writ", x.share(-1), 1);
        Check.same("to the first", x.share(0), 0);
        Check.same("none to the second", x.share(1), -1);
        Check.same("none to the third", x.share(2), -1);
        OtterWrits y = Check.told(one + "writ y for p by 9; writ z for p by 9; writ u for p by 9;");
        Check.same("three", y.share(-1), 3);
        Check.same("no days", y.share(-2), 0);
        for (int o = 0; o < 3; o++) {
            Check.same("the first row, " + o, y.share(o), o);
        }
        y.take(1, 0);
        Check.same("x is with s: o", y.share(0), 1);
        Check.same("x is with s: s", y.share(1), 0);
        Check.same("x is with s: t", y.share(2), 2);
        OtterWrits none = Check.told("place a water 5; otter o in a pace 1;");
        Check.same("no writs", none.share(-1), 0);
        Check.same("no days", none.share(-2), 0);
        Check.same("none", none.share(0), -1);
    }

    private static void others() {
        OtterWrits x = Check.told(COUNTY);
        for (int i : FAR) {
            Check.same("later(" + i + ", 0)", x.later(i, 0), -1);
            Check.same("where(" + i + ", 0)", x.where(i, 0), -1);
            Check.same("dry(" + i + ")", x.dry(i), -1);
            Check.same("wet(" + i + ")", x.wet(i), -1);
            Check.same("crest(" + i + ")", x.crest(i), -1);
            Check.same("safe(" + i + ", 1)", x.safe(i, 1), -1);
            Check.same("soon(" + i + ", 0)", x.soon(i, 0), -1);
            Check.same("soon(0, " + i + ")", x.soon(0, i), -1);
            Check.same("serves(" + i + ", 0)", x.serves(i, 0), -1);
            Check.same("serves(0, " + i + ")", x.serves(0, i), -1);
            Check.same("intime(" + i + ")", x.intime(i), -1);
        }
        for (int i : new int[] {-1, 61, Integer.MIN_VALUE, Integer.MAX_VALUE}) {
            Check.same("later(0, " + i + ")", x.later(0, i), -1);
            Check.same("where(0, " + i + ")", x.where(0, i), -1);
            Check.same("safe(0, " + i + ")", x.safe(0, i), -1);
        }
    }

    private static void askingChangesNothing() {
        OtterWrits x = Check.told(COUNTY);
        x.later(0, 60);
        x.share(0);
        x.safe(0, 60);
        Check.same("day", x.count(5), 0);
        Check.same("past", x.count(11), 0);
        Check.same("water", x.place(3, 0), 5);
        Check.same("wary", x.person(1, 1), 3);
        Check.same("otter", x.otter(0, 1), 0);
    }
}
