import java.util.function.IntUnaryOperator;

/** The promises, one by one: the last that is taken and the first that is refused, on both sides, and what is answered to others. */
final class FaceEdges {
    private static final int LOW = Integer.MIN_VALUE;
    private static final int HIGH = Integer.MAX_VALUE;
    /** Two places, three persons, two otters, four writs: so a number that is taken for another sort's is found out. */
    private static final String MIXED = Tell.places(3, 1) + Tell.streams(0, 1) + Tell.persons("plain 1", "wary 0", "bather 0")
            + Tell.otters(0, 2, 1, 3) + Tell.writs(0, 0, 1, 1, 2, 2, 0, 60) + "rain 1 2;";
    /** Each sort as many as can be: 7 places, 5 persons, 3 otters, 6 writs. */
    private static final int[] FULL = {7, 5, 3, 6};
    private static final int[] SOME = {2, 3, 2, 4};
    private static final int PLACE = 0;
    private static final int PERSON = 1;
    private static final int OTTER = 2;
    private static final int WRIT = 3;

    private FaceEdges() {
    }

    static void all() {
        first();
        hand();
        ahead();
        now();
        last();
    }

    private interface Ask {
        int of(OtterWrits x, int number);
    }

    /** All numbers of a sort are taken, the first beyond on both sides and the farthest are answered as others are; all stays. */
    private static void numbers(String call, int sort, int none, boolean mayAnswerNone, Ask ask) {
        for (int round = 0; round < 3; round++) {
            OtterWrits x = round == 0 ? new OtterWrits() : Check.told(round == 1 ? MIXED : Tell.full());
            int size = round == 0 ? 0 : (round == 1 ? SOME : FULL)[sort];
            String ahead = Check.all(x);
            for (int i : new int[] {LOW, -3, -2, -1, size, size + 1, 7, 8, 31, 32, 33, HIGH}) {
                if (i < 0 || i >= size) {
                    Check.same(call + " of " + i + " of " + size, ask.of(x, i), none);
                }
            }
            Check.equal("all behind " + call, Check.all(x), ahead);
            for (int i = 0; i < size && !mayAnswerNone; i++) {
                Check.yes(call + " of " + i + " of " + size + " is answered", ask.of(x, i) != none);
            }
        }
    }

    /** The last that are taken, and the first that are not, of another argument. */
    private static void range(String call, int least, int most, int none, boolean mayAnswerNone, IntUnaryOperator ask) {
        for (int i : new int[] {LOW, least - 2, least - 1, most + 1, most + 2, HIGH}) {
            Check.same(call + " by " + i, ask.applyAsInt(i), none);
        }
        if (!mayAnswerNone) {
            Check.yes(call + " by " + least, ask.applyAsInt(least) != none);
            Check.yes(call + " by " + most, ask.applyAsInt(most) != none);
        }
    }

    // ---- promises 1 to 8

    private static void first() {
        Edge.in("Promise 1");
        Edge.of("Nothing.", FaceEdges::aNewObject);
        Edge.in("Promise 2");
        Edge.of("Up to 24 signs come behind the TAPE: the bytes of a, b, c, of each the highest first", FaceEdges::feedOrder);
        Edge.of("others than 10 and 32 .. 126, and what is beyond 1,000, are left out: how many there are.", FaceEdges::feedLeavesOut);
        Edge.in("Promise 3");
        Edge.of("The TAPE is read as a COUNTY: 0, or its FAULT (all stays then).", FaceEdges::county);
        Edge.in("Promise 4");
        Edge.of("The TAPE is read as a SESSION, likewise.", FaceEdges::session);
        Edge.in("Promise 5");
        Edge.of("Of a PLACE, what 0: water, 1: PLACES to which streams lead, as bits, 2: PERSONS who are there, as bits, 3: OTTERS that are "
                + "there, as bits; NONE: others.", FaceEdges::place);
        Edge.in("Promise 6");
        Edge.of("Of a PERSON, what 0: KIND (0 plain, 1 wary, 2 bather, 3 dewy), 1: the PLACE; NONE: others.", FaceEdges::person);
        Edge.in("Promise 7");
        Edge.of("Of an OTTER, what 0: pace, 1: the PLACE, 2: how often it has swum today, 3: WRITS with it, as bits; NONE: others.",
                FaceEdges::otter);
        Edge.in("Promise 8");
        Edge.of("Of a WRIT, what 0: for whom, 1: its day, 2: the OTTER that has it (NONE: the ASSIZE, 3: SERVED); -2: others.", FaceEdges::writ);
    }

    /** Every call on a new object that is not for how many, and what it answers to nothing. */
    private static void aNewObject() {
        OtterWrits x = new OtterWrits();
        Check.equal("all that can be asked", Check.all(x), "0 0 0 0 0 0 1 0 0 0 0 0 0 | -1 -1 0 1023");
        Check.same("county", x.county(), 0);
        Check.same("session", x.session(), 0);
        Check.no("take", x.take(0, 0));
        Check.same("swim", x.swim(0, 0), -1);
        Check.same("serve", x.serve(0), -1);
        Check.no("undo", x.undo());
        Check.same("judged", x.judged(2), 0);
        Check.same("later", x.later(0, 0), -1);
        Check.same("where", x.where(0, 0), -1);
        Check.same("dry", x.dry(0), -1);
        Check.same("wet", x.wet(0), -1);
        Check.same("flood", x.flood(), 0);
        Check.same("crest", x.crest(0), -1);
        Check.same("safe", x.safe(0, 1), -1);
        Check.same("soon", x.soon(0, 0), -1);
        Check.same("serves", x.serves(0, 0), -1);
        Check.same("intime", x.intime(0), -1);
        Check.same("share: how many", x.share(-1), 0);
        Check.same("share: the DAYS", x.share(-2), 0);
        Check.same("share of no OTTER", x.share(0), -3);
        Check.same("late", x.late(), 0);
        Check.no("may", x.may(0));
        Check.same("can", x.can(0), -1);
        Check.same("reach", x.reach(0), -1);
        Check.same("pool", x.pool(0), -1);
        Check.same("far", x.far(0, 0), -1);
        Check.same("pools", x.pools(), 0);
        Check.same("bridges", x.bridges(), 0);
        Check.same("warm", x.warm(), -1);
        Check.same("hunted", x.hunted(), -1);
        Check.no("see", x.see(0, 0, true));
        Check.same("rains", x.rains(), 1023);
        Check.same("look", x.look(), -1);
        Check.same("chance", x.chance(0, 1, 0), -1);
        Check.same("rests", Check.rests(x, 1, 1, 1, -1), 2);
        for (int what = 0; what < 3; what++) {
            Check.same("sessions", x.sessions(0, 99, what), 0);
        }
        Check.no("mark", x.mark(0, true));
        Check.same("day", x.day(), 0);
        Check.yes("undo the day", x.undo());
        Check.no("no more", x.undo());
    }

    private static void feedOrder() {
        for (int at = 0; at < 24; at++) {
            long[] packed = new long[3];
            for (int i = 0; i < 24; i++) {
                packed[i / 8] = packed[i / 8] << 8 | (i == at ? '#' : ' ');
            }
            OtterWrits x = new OtterWrits();
            Check.same("24 signs", x.feed(packed[0], packed[1], packed[2]), 24);
            Check.same("the sign " + at, x.county(), 1 + 16 * at);
        }
        OtterWrits x = new OtterWrits();
        Check.same("one", x.feed(0, 0, ' '), 1);
        Check.same("behind it", x.feed(0, '#', ' '), 3);
        Check.same("behind both", x.feed(-1, 0, 0), 3);
        Check.same("# is the second", x.county(), 1 + 16);
        Check.same("none", new OtterWrits().feed(0, 0, 0), 0);
    }

    private static void feedLeavesOut() {
        for (int shift = 0; shift < 64; shift += 8) {
            for (int sign : new int[] {0, 9, 11, 13, 31, 127, 128, 160, 254, 255}) {
                Check.same("the sign " + sign, new OtterWrits().feed((long) sign << shift, 0, (long) sign << shift), 0);
            }
            for (int sign : new int[] {10, 32, 33, 125, 126}) {
                Check.same("the sign " + sign, new OtterWrits().feed((long) sign << shift, (long) sign << shift, 0), 2);
            }
        }
        Check.same("all bits", new OtterWrits().feed(-1, -1, -1), 0);
        Check.same("the least and the greatest", new OtterWrits().feed(Long.MIN_VALUE, Long.MAX_VALUE, 0), 0);
        OtterWrits x = new OtterWrits();
        long eight = 0x2020202020202020L;
        for (int i = 1; i <= 41; i++) {
            Check.same("feed " + i, x.feed(eight, eight, eight), 24 * i);
        }
        Check.same("992", x.feed(eight, 0, 0), 992);
        Check.same("999", x.feed(eight >>> 8, 0, 0), 999);
        Check.same("999 and left out ones", x.feed(0x0102030405060708L, -1, 0), 999);
        Check.same("1,000", x.feed(0, eight, eight), 1000);
        Check.same("beyond", x.feed(eight, eight, eight), 1000);
        Check.same("how many there are", x.count(12), 1000);
    }

    private static void county() {
        OtterWrits x = Check.told(MIXED);
        x.take(0, 0);
        x.see(0, 2, true);
        String ahead = Check.all(x);
        String[] wrong = {"#", "place", "place pa water 10;", "place pa water 1;place pa", "stream pa", "rain 1;rain", "wets (((((1", "wets 1"};
        int[] due = {1, 1 + 16 * 5, 4 + 16 * 15, 3 + 16 * 23, 2 + 16 * 7, 3 + 16 * 7, 5 + 16 * 10, 1 + 16 * 6};
        for (int i = 0; i < wrong.length; i++) {
            Check.same("county: " + wrong[i], Check.county(x, wrong[i]), due[i]);
        }
        Check.equal("all stays", Check.all(x), ahead);
        Check.yes("what can be undone stays", x.undo());
        Check.same("the taking", x.writ(0, 2), -1);
        Check.same("a right one", Check.county(x, "place pz water 4;"), 0);
        Check.same("it is the COUNTY", x.count(0) * 10 + x.place(0, 0), 14);
        Check.same("nothing is on the TAPE", x.county(), 0);
        Check.same("so nothing is the COUNTY", x.count(0), 0);
    }

    private static void session() {
        OtterWrits x = Check.told(MIXED);
        Check.same("one", Check.session(x, "take oa wa;swim oa pb;"), 0);
        x.take(0, 1);
        x.mark(1, false);
        String ahead = Check.all(x);
        String[] wrong = {"#", "day", "take oa", "take oc wa;", "take oa we;", "swim oa pc;", "serve qa;", "swim pa oa;", Tell.times("day;", 41)};
        int[] due = {1, 1 + 16 * 3, 1 + 16 * 7, 2 + 16 * 5, 2 + 16 * 8, 2 + 16 * 8, 2 + 16 * 6, 2 + 16 * 5, 5 + 16 * 160};
        for (int i = 0; i < wrong.length; i++) {
            Check.same("session: " + wrong[i], Check.session(x, wrong[i]), due[i]);
        }
        Check.equal("all stays", Check.all(x), ahead);
        Check.yes("the MARK stays", x.mark(1, true));
        Check.same("its lines", x.count(9), 2);
        Check.same("judged", x.judged(0), -1);
        Check.same("nothing is on the TAPE", x.session(), 0);
        Check.same("so there are no lines", x.count(9), 0);
    }

    private static void place() {
        OtterWrits x = Check.told(MIXED);
        int[][] due = {{3, 2, 6, 1}, {1, 1, 1, 2}};
        for (int p = 0; p < 2; p++) {
            for (int what = 0; what < 4; what++) {
                Check.same("place(" + p + ", " + what + ")", x.place(p, what), due[p][what]);
            }
            int at = p;
            range("place(" + p + ", what)", 0, 3, -1, false, what -> x.place(at, what));
        }
        for (int what = 0; what < 4; what++) {
            int asked = what;
            numbers("place, what " + what, PLACE, -1, false, (y, p) -> y.place(p, asked));
        }
        OtterWrits empty = Check.told(Tell.places(0));
        for (int what = 0; what < 4; what++) {
            Check.same("nothing there: what " + what, empty.place(0, what), 0);
        }
        OtterWrits crowd = Check.told(Tell.places(9, 9, 9, 9, 9, 9, 9) + Tell.streams(6, 0, 6, 1, 6, 2, 6, 3, 6, 4, 6, 5)
                + Tell.persons("dewy 6", "dewy 6", "dewy 6", "dewy 6", "dewy 6") + Tell.otters(6, 1, 6, 1, 6, 1));
        int[] all = {9, 63, 31, 7};
        for (int what = 0; what < 4; what++) {
            Check.same("all there: what " + what, crowd.place(6, what), all[what]);
        }
    }

    private static void person() {
        OtterWrits x = Check.told(Tell.places(1, 1, 1, 1) + Tell.persons("plain 3", "wary 2", "bather 1", "dewy 0"));
        for (int q = 0; q < 4; q++) {
            Check.same("kind of " + q, x.person(q, 0), q);
            Check.same("place of " + q, x.person(q, 1), 3 - q);
            int at = q;
            range("person(" + q + ", what)", 0, 1, -1, false, what -> x.person(at, what));
        }
        for (int what = 0; what < 2; what++) {
            int asked = what;
            numbers("person, what " + what, PERSON, -1, false, (y, q) -> y.person(q, asked));
        }
    }

    private static void otter() {
        OtterWrits x = Check.told(MIXED);
        x.take(0, 3);
        x.take(0, 0);
        x.swim(0, 1);
        int[][] due = {{2, 1, 1, 9}, {3, 1, 0, 0}};
        for (int o = 0; o < 2; o++) {
            for (int what = 0; what < 4; what++) {
                Check.same("otter(" + o + ", " + what + ")", x.otter(o, what), due[o][what]);
            }
            int at = o;
            range("otter(" + o + ", what)", 0, 3, -1, false, what -> x.otter(at, what));
        }
        for (int what = 0; what < 4; what++) {
            int asked = what;
            numbers("otter, what " + what, OTTER, -1, false, (y, o) -> y.otter(o, asked));
        }
    }

    private static void writ() {
        OtterWrits x = Check.told(Tell.places(1) + Tell.persons("plain 0", "dewy 0") + Tell.otters(0, 1, 0, 1, 0, 1) + Tell.writs(1, 60, 0, 0, 1, 1, 0, 59, 1, 2, 0, 3));
        x.take(2, 1);
        x.take(0, 2);
        x.take(1, 3);
        x.serve(3);
        int[][] due = {{1, 60, -1}, {0, 0, 2}, {1, 1, 0}, {0, 59, 3}, {1, 2, -1}, {0, 3, -1}};
        for (int w = 0; w < 6; w++) {
            for (int what = 0; what < 3; what++) {
                Check.same("writ(" + w + ", " + what + ")", x.writ(w, what), due[w][what]);
            }
            int at = w;
            range("writ(" + w + ", what)", 0, 2, -2, false, what -> x.writ(at, what));
        }
        for (int what = 0; what < 3; what++) {
            int asked = what;
            numbers("writ, what " + what, WRIT, -2, false, (y, w) -> y.writ(w, asked));
        }
    }

    // ---- promises 9 to 14

    private static void hand() {
        Edge.in("Promise 9");
        Edge.of("TAKE: true; false: others, it can't be.", FaceEdges::take);
        Edge.in("Promise 10");
        Edge.of("SWIM: how often it has swum today; NONE: others, it can't be.", FaceEdges::swim);
        Edge.in("Promise 11");
        Edge.of("SERVE: the OTTER; NONE: others, it can't be.", FaceEdges::serve);
        Edge.in("Promise 12");
        Edge.of("DAY: PLACES that are WET then, as bits.", FaceEdges::day);
        Edge.in("Promise 13");
        Edge.of("UNDO: true; false: nothing can be.", FaceEdges::undo);
        Edge.in("Promise 14");
        Edge.of("JUDGED, what 0, 1: lines (NONE: none), 2: how many; -2: others.", FaceEdges::judged);
    }

    private static void take() {
        numbers("take(otter, 0)", OTTER, 0, true, (x, o) -> x.take(o, 0) ? 1 : 0);
        numbers("take(0, writ)", WRIT, 0, true, (x, w) -> x.take(0, w) ? 1 : 0);
        OtterWrits x = Check.told(Tell.full());
        Check.refused("it can't be: elsewhere", x, () -> x.take(2, 5));
        Check.yes("the first OTTER, the last WRIT", x.take(0, 5));
        Check.yes("the second OTTER, the first WRIT", x.take(1, 0));
        OtterWrits last = Check.told(Tell.places(0) + Tell.otters(0, 1, 0, 1, 0, 1) + Tell.persons("plain 0") + Tell.writs(0, 0, 0, 0, 0, 0, 0, 0, 0, 0, 0, 0));
        for (int w = 5; w >= 0; w--) {
            Check.yes("all six by two each", last.take(w / 2, w));
        }
        Check.same("six can be undone", last.count(11), 6);
        Check.refused("no more", last, () -> last.take(2, 0));
    }

    private static void swim() {
        numbers("swim(otter, 1)", OTTER, -1, true, (x, o) -> x.swim(o, 1));
        numbers("swim(0, place)", PLACE, -1, true, (x, p) -> x.swim(0, p));
        OtterWrits x = Check.told(Tell.places(1, 1, 1, 1, 1, 1, 1) + Tell.streams(0, 6, 6, 5) + Tell.otters(1, 1, 1, 1, 0, 3));
        Check.same("the last OTTER to the last PLACE: 1", x.swim(2, 6), 1);
        Check.same("2", x.swim(2, 5), 2);
        Check.same("3", x.swim(2, 6), 3);
        Check.stays("it can't be", x, () -> x.swim(2, 0), -1);
        x.day();
        Check.same("1 again", x.swim(2, 0), 1);
    }

    private static void serve() {
        numbers("serve", WRIT, -1, true, OtterWrits::serve);
        OtterWrits x = Check.told(Tell.places(1) + Tell.otters(0, 1, 0, 1, 0, 1) + Tell.persons("plain 0") + Tell.writs(0, 0, 0, 0, 0, 0, 0, 0, 0, 0, 0, 0));
        for (int w = 0; w < 6; w++) {
            x.take(2 - w / 2, w);
        }
        for (int w = 0; w < 6; w++) {
            Check.same("the OTTER of " + w, x.serve(w), 2 - w / 2);
        }
        Check.stays("it can't be", x, () -> x.serve(0), -1);
        Check.same("all six", x.count(8), 63);
    }

    private static void day() {
        OtterWrits x = Check.told(Tell.places(0, 1, 2, 0, 1, 2, 9) + "rain 0 0 9;");
        Check.same("2 and more are WET then", x.day(), 4 + 32 + 64);
        Check.same("as counted", x.count(7), 4 + 32 + 64);
        Check.same("the last one", x.day(), 64);
        Check.same("all seven", x.day(), 127);
        Check.same("none", Check.told(Tell.places(1, 1, 1) + "wets 0;").day(), 0);
        Check.same("no PLACES", new OtterWrits().day(), 0);
    }

    private static void undo() {
        OtterWrits x = Check.told(MIXED);
        Check.refused("nothing was done", x, x::undo);
        x.day();
        Check.yes("a day", x.undo());
        Check.refused("no more", x, x::undo);
        OtterWrits y = Check.told(MIXED);
        for (int i = 0; i < 17; i++) {
            y.day();
        }
        for (int i = 0; i < 16; i++) {
            Check.yes("one of 16", y.undo());
        }
        Check.refused("the 17th", y, y::undo);
        Check.same("the day 1", y.count(5), 1);
        OtterWrits z = Check.told(MIXED);
        z.day();
        Check.county(z, MIXED);
        Check.refused("behind a county", z, z::undo);
        z.mark(0, false);
        z.day();
        z.mark(0, true);
        Check.refused("behind a MARK gone back to", z, z::undo);
    }

    private static void judged() {
        OtterWrits x = Check.told(MIXED);
        range("judged", 0, 2, -2, false, x::judged);
        Check.same("no line that can't be", x.judged(0), -1);
        Check.same("no line that serves", x.judged(1), -1);
        Check.same("none", x.judged(2), 0);
        Check.session(x, "take oa wa;swim oa pb;serve wa;swim oa pa;take oa wc;serve wc;swim oa pb;");
        Check.same("the seventh can't be", x.judged(0), 6);
        Check.same("the third serves", x.judged(1), 2);
        Check.same("two", x.judged(2), 2);
        Check.same("others", x.judged(-1), -2);
        Check.same("others", x.judged(3), -2);
    }

    // ---- promises 15 to 25

    private static void ahead() {
        Edge.in("Promise 15");
        Edge.of("LATER; NONE: others.", () -> {
            numbers("later(place, 0)", PLACE, -1, false, (x, p) -> x.later(p, 0));
            numbers("later(place, 60)", PLACE, -1, false, (x, p) -> x.later(p, 60));
            range("later(1, days)", 0, 60, -1, false, days -> Check.told(MIXED).later(1, days));
        });
        Edge.in("Promise 16");
        Edge.of("WHERE; NONE: others.", () -> {
            numbers("where(person, 0)", PERSON, -1, false, (x, q) -> x.where(q, 0));
            numbers("where(person, 60)", PERSON, -1, false, (x, q) -> x.where(q, 60));
            range("where(2, days)", 0, 60, -1, false, days -> Check.told(MIXED).where(2, days));
        });
        Edge.in("Promise 17");
        Edge.of("DRY; NONE: others, not by 60.", () -> {
            numbers("dry", PLACE, -1, true, OtterWrits::dry);
            Check.same("by 60", Check.told(Tell.places(1, 2) + "wets level-(date=59);").dry(0), 60);
            Check.same("not by 60", Check.told(Tell.places(1, 2) + "wets level-(date=59);").dry(1), -1);
            Check.same("the last PLACE", Check.told(Tell.places(1, 1, 1, 1, 1, 1, 0)).dry(6), 0);
        });
        Edge.in("Promise 18");
        Edge.of("WET; NONE: others, not by 60.", () -> {
            numbers("wet", PLACE, -1, true, OtterWrits::wet);
            Check.same("by 60", Check.told(Tell.places(0) + "wets level+(date=59);").wet(0), 60);
            Check.same("not by 60", Check.told(Tell.places(0) + "wets level+(date=60);").wet(0), -1);
            Check.same("the last PLACE", Check.told(Tell.places(0, 0, 0, 0, 0, 0, 1)).wet(6), 0);
        });
        Edge.in("Promise 19");
        Edge.of("FLOOD (0: no PLACES); NONE: not by 60.", () -> {
            Check.same("no PLACES", new OtterWrits().flood(), 0);
            Check.same("by 60", Check.told(Tell.places(0) + "wets level+(date=59);").flood(), 60);
            Check.same("not by 60", Check.told(Tell.places(0) + "wets level+(date=60);").flood(), -1);
            Check.same("only the last is dry", Check.told(Tell.places(1, 1, 1, 1, 1, 1, 0)).flood(), -1);
        });
        Edge.in("Promise 20");
        Edge.of("CREST; NONE: others.", () -> {
            numbers("crest", PLACE, -1, false, OtterWrits::crest);
            Check.same("by 60", Check.told(Tell.places(0, 9) + "wets level+(date=59);").crest(0), 60);
            Check.same("now", Check.told(Tell.places(0, 9) + "wets level+(date=59);").crest(1), 0);
        });
        Edge.in("Promise 21");
        Edge.of("SAFE, as bits; NONE: others.", () -> {
            numbers("safe(person, 1)", PERSON, -1, false, (x, q) -> x.safe(q, 1));
            numbers("safe(person, 60)", PERSON, -1, false, (x, q) -> x.safe(q, 60));
            range("safe(2, days)", 1, 60, -1, false, days -> Check.told(MIXED).safe(2, days));
            Check.same("everywhere", Check.told(Tell.places(2, 2, 2, 2, 2, 2, 2) + Tell.persons("wary 0")).safe(0, 60), 127);
            Check.same("nowhere", Check.told(Tell.places(3, 3, 3, 3, 3, 3, 3) + Tell.persons("wary 0")).safe(0, 60), 0);
        });
        soonAndServes();
    }

    private static void soonAndServes() {
        Edge.in("Promise 22");
        Edge.of("SOON; NONE: others, not by 60.", () -> {
            numbers("soon(otter, 0)", OTTER, -1, true, (x, o) -> x.soon(o, 0));
            numbers("soon(0, place)", PLACE, -1, true, (x, p) -> x.soon(0, p));
            String pair = Tell.places(1, 0) + Tell.streams(0, 1) + Tell.otters(0, 1, 0, 2, 1, 3);
            Check.same("by 60", Check.told(pair + "wets level+(date=59);").soon(0, 1), 60);
            Check.same("not by 60", Check.told(pair + "wets level+(date=60);").soon(0, 1), -1);
            Check.same("the last OTTER, the last PLACE", Check.told(pair).soon(2, 1), 0);
        });
        Edge.in("Promise 23");
        Edge.of("SERVES; NONE: others, none, not by 60.", () -> {
            numbers("serves(writ, 0)", WRIT, -1, true, (x, w) -> x.serves(w, 0));
            numbers("serves(0, otter)", OTTER, -1, true, (x, o) -> x.serves(0, o));
            String one = Tell.places(0) + Tell.otters(0, 1, 0, 1, 0, 1) + Tell.persons("plain 0") + Tell.writs(0, 0, 0, 0, 0, 0, 0, 0, 0, 0, 0, 0);
            Check.same("by 60", Check.told(one + "wets level+(date=59);").serves(5, 2), 60);
            Check.same("not by 60", Check.told(one + "wets level+(date=60);").serves(5, 2), -1);
            OtterWrits x = Check.told(one + "wets 1;");
            x.take(1, 5);
            Check.same("with another one: none", x.serves(5, 2), -1);
            Check.same("with this one", x.serves(5, 1), 1);
            x.day();
            x.serve(5);
            Check.same("SERVED: none", x.serves(5, 1), -1);
        });
        Edge.in("Promise 24");
        Edge.of("INTIME, as bits; NONE: others.", () -> {
            numbers("intime", WRIT, -1, false, OtterWrits::intime);
            String one = Tell.places(0) + Tell.otters(0, 1, 0, 1, 0, 1) + Tell.persons("plain 0") + Tell.writs(0, 0, 0, 0, 0, 0, 0, 0, 0, 59, 0, 60);
            OtterWrits x = Check.told(one + "wets level+(date=59);");
            Check.same("by all on the day 60", x.intime(5), 7);
            Check.same("by none on the day 59", x.intime(4), 0);
        });
        Edge.in("Promise 25");
        Edge.of("SHARE, what NONE: how many, -2: the DAYS; i: the WRIT of the i-th OTTER (NONE: none); -3: others.", () -> {
            numbers("share", OTTER, -3, false, (x, o) -> o == -1 || o == -2 ? -3 : x.share(o));
            for (String county : new String[] {"", MIXED, Tell.full()}) {
                OtterWrits x = Check.told(county);
                range("share(what)", -2, x.count(3) - 1, -3, false, x::share);
            }
            OtterWrits x = Check.told(Tell.places(1) + Tell.otters(0, 1, 0, 1, 0, 1) + Tell.persons("plain 0") + Tell.writs(0, 0, 0, 0) + "wets level;");
            int[] due = {0, 2, 0, 1, -1};
            for (int what = -2; what < 3; what++) {
                Check.same("share(" + what + ")", x.share(what), due[what + 2]);
            }
        });
    }

    // ---- promises 26 to 35

    private static void now() {
        Edge.in("Promise 26");
        Edge.of("LATE, as bits.", () -> {
            OtterWrits x = Check.told(MIXED);
            int[] due = {0, 1, 3, 7, 7};
            for (int d = 0; d < 5; d++) {
                Check.same("on the day " + d, x.late(), due[d]);
                x.day();
            }
        });
        Edge.in("Promise 27");
        Edge.of("MAY; false: others, it can't be.", () -> {
            numbers("may", WRIT, 0, true, (x, w) -> x.may(w) ? 1 : 0);
            OtterWrits x = Check.told(Tell.places(1) + Tell.otters(0, 1, 0, 1, 0, 1) + Tell.persons("plain 0") + Tell.writs(0, 0, 0, 0, 0, 0, 0, 0, 0, 0, 0, 0));
            x.take(2, 5);
            for (int w = 0; w < 6; w++) {
                Check.same("may(" + w + ")", x.may(w) ? 1 : 0, w == 5 ? 1 : 0);
            }
        });
        Edge.in("Promise 28");
        Edge.of("CAN, as bits; NONE: others.", () -> {
            numbers("can", OTTER, -1, false, OtterWrits::can);
            Check.same("to six", Check.told(Tell.places(1, 1, 1, 1, 1, 1, 1) + Tell.streams(0, 1, 0, 2, 0, 3, 0, 4, 0, 5, 0, 6) + Tell.otters(0, 1)).can(0), 126);
            Check.same("to none", Check.told(Tell.places(1) + Tell.otters(0, 1)).can(0), 0);
        });
        Edge.in("Promise 29");
        Edge.of("REACH, as bits; NONE: others.", () -> numbers("reach", PLACE, -1, false, OtterWrits::reach));
        Edge.in("Promise 30");
        Edge.of("POOL, as bits; NONE: others.", () -> {
            numbers("pool", PLACE, -1, false, OtterWrits::pool);
            Check.same("0: not WET", Check.told(Tell.places(0)).pool(0), 0);
        });
        Edge.in("Promise 31");
        Edge.of("FAR (0: the same); NONE: others, never.", () -> {
            numbers("far(place, 0)", PLACE, -1, false, (x, p) -> x.far(p, 0));
            numbers("far(0, place)", PLACE, -1, false, (x, p) -> x.far(0, p));
            Check.same("others, the same", Check.told(MIXED).far(2, 2), -1);
            Check.same("others, the same", Check.told(MIXED).far(-1, -1), -1);
            Check.same("the same", Check.told(MIXED).far(1, 1), 0);
            Check.same("never", Check.told(Tell.places(1, 1)).far(0, 1), -1);
        });
        Edge.in("Promise 32");
        Edge.of("POOLS, how many.", () -> {
            Check.same("none", new OtterWrits().pools(), 0);
            Check.same("one", Check.told(MIXED).pools(), 1);
            Check.same("seven", Check.told(Tell.places(1, 1, 1, 1, 1, 1, 9)).pools(), 7);
        });
        Edge.in("Promise 33");
        Edge.of("BRIDGES, how many.", () -> {
            Check.same("none", new OtterWrits().bridges(), 0);
            Check.same("one", Check.told(MIXED).bridges(), 1);
            Check.same("of ten, one", Check.told(Tell.full()).bridges(), 1);
        });
        Edge.in("Promise 34");
        Edge.of("WARM; NONE: nobody.", () -> {
            Check.same("nobody", Check.told(Tell.places(1, 1, 1)).warm(), -1);
            Check.same("the most", Check.told(MIXED).warm(), 0);
        });
        Edge.in("Promise 35");
        Edge.of("HUNTED; NONE: nobody.", () -> {
            Check.same("nobody", Check.told(Tell.places(1) + Tell.persons("plain 0")).hunted(), -1);
            Check.same("the most", Check.told(MIXED).hunted(), 0);
        });
    }

    // ---- promises 36 to 43

    private static void last() {
        Edge.in("Promise 36");
        Edge.of("SEEN: true; false: others, 8 there are.", FaceEdges::see);
        Edge.in("Promise 37");
        Edge.of("RAINS, as bits.", FaceEdges::rains);
        Edge.in("Promise 38");
        Edge.of("LOOK, as 10 * the PLACE + how much; NONE: none parts them.", FaceEdges::look);
        Edge.in("Promise 39");
        Edge.of("CHANCE, by odds (0 to 10); NONE: others.", () -> {
            numbers("chance(place, 1, 5)", PLACE, -1, false, (x, p) -> x.chance(p, 1, 5));
            range("chance(1, days, 5)", 1, 6, -1, false, days -> Check.told(MIXED).chance(1, days, 5));
            range("chance(1, 6, odds)", 0, 10, -1, false, odds -> Check.told(MIXED).chance(1, 6, odds));
        });
        Edge.in("Promise 40");
        Edge.of("RESTS of ANSWER by what both get, what one loses, what the other one gets, what NONE: how many; i: the i-th as 2 * the first "
                + "one's choice + the other one's (1 shows it; the least first).", FaceEdges::rests);
        Edge.of("NoSuchElementException: others, none such.", FaceEdges::restsThrows);
        Edge.in("Promise 41");
        Edge.of("SESSIONS by a SEED (0 to 9999), what 0: SERVED, 1: water, 2: bits; NONE: others.", () -> {
            for (int what = 0; what < 3; what++) {
                int asked = what;
                range("sessions(seed, 1, " + what + ")", 0, 9999, -1, false, seed -> Check.told(MIXED).sessions(seed, 1, asked));
                range("sessions(1, days, " + what + ")", 1, 99, -1, false, days -> Check.told(MIXED).sessions(1, days, asked));
            }
            range("sessions(1, 1, what)", 0, 2, -1, false, what -> Check.told(MIXED).sessions(1, 1, what));
        });
        Edge.in("Promise 42");
        Edge.of("A MARK is laid (back: gone back to): true; false: none such, nothing is on it (back).", FaceEdges::mark);
        Edge.in("Promise 43");
        Edge.of("What 0: PLACES, 1: streams, 2: PERSONS, 3: OTTERS, 4: WRITS, 5: the day, 6: its rain, 7: WET PLACES, as bits, 8: SERVED WRITS, "
                + "as bits, 9: lines of the SESSION, 10: SEEN, 11: what can be undone, 12: signs on the TAPE.", FaceEdges::count);
        Edge.of("NONE for another what.", () -> {
            OtterWrits x = Check.told(MIXED);
            range("count", 0, 12, -1, false, x::count);
            Check.same("count(-2)", x.count(-2), -1);
        });
    }

    private static void see() {
        numbers("see(place, 0, true)", PLACE, 0, true, (x, p) -> x.see(p, 0, true) ? 1 : 0);
        numbers("see(place, 9, false)", PLACE, 0, true, (x, p) -> x.see(p, 9, false) ? 1 : 0);
        range("see(1, water, true)", 0, 9, 0, false, water -> Check.told(MIXED).see(1, water, true) ? 1 : 0);
        range("see(1, water, false)", 0, 9, 0, false, water -> Check.told(MIXED).see(1, water, false) ? 1 : 0);
        OtterWrits x = Check.told(MIXED);
        for (int i = 0; i < 8; i++) {
            Check.yes("the number " + (i + 1), x.see(i % 2, i, i % 2 == 0));
        }
        Check.refused("8 there are", x, () -> x.see(0, 0, true));
        x.day();
        Check.refused("on another day, too", x, () -> x.see(0, 0, true));
    }

    private static void rains() {
        Check.same("all", new OtterWrits().rains(), 1023);
        OtterWrits x = Check.told("place pa water 0;wets falls;");
        for (int r = 0; r <= 9; r++) {
            x = Check.told("place pa water 0;wets falls;");
            x.see(0, r, true);
            if (r < 9) {
                x.see(0, r + 1, false);
            }
            Check.same("the rain " + r, x.rains(), 1 << r);
        }
        x.see(0, 9, false);
        Check.same("none", x.rains(), 0);
    }

    private static void look() {
        Check.same("10 * 0 + 1", Check.told(Tell.places(0) + "wets 4<falls;").look(), 1);
        Check.same("10 * 0 + 9", Check.told(Tell.places(0) + "wets 8+(4<falls);").look(), 9);
        String seven = Tell.places(1, 1, 1, 1, 1, 1, 0);
        Check.same("10 * 6 + 9", Check.told(seven + "wets (level=0)*(8+(4<falls));").look(), 69);
        Check.same("10 * 6 + 1", Check.told(seven + "wets (level=0)*(4<falls);").look(), 61);
        Check.same("none parts them", Check.told(seven + "wets level;").look(), -1);
        Check.same("no PLACES", new OtterWrits().look(), -1);
    }

    private static void rests() {
        OtterWrits x = new OtterWrits();
        int[][] due = {{0, 0, 0, 4, 0, 1, 2, 3}, {9, 0, 9, 4, 0, 1, 2, 3}, {9, 9, 9, 2, 0, 3}, {0, 0, 9, 3, 0, 1, 2}, {9, 0, 0, 2, 0, 3}, {0, 9, 9, 1, 0}, {9, 9, 0, 2, 0, 3}, {0, 9, 0, 2, 0, 3},
            {0, 1, 0, 2, 0, 3}, {3, 0, 4, 3, 0, 1, 2}, {4, 0, 3, 2, 0, 3}};
        for (int[] row : due) {
            String call = "rests(" + row[0] + ", " + row[1] + ", " + row[2] + ", ";
            Check.same(call + "-1)", Check.rests(x, row[0], row[1], row[2], -1), row[3]);
            for (int i = 0; i < row[3]; i++) {
                Check.same(call + i + ")", Check.rests(x, row[0], row[1], row[2], i), row[4 + i]);
            }
        }
    }

    private static void restsThrows() {
        for (int i : new int[] {LOW, -2, 4, 5, HIGH}) {
            Check.same("what " + i, Check.rests(new OtterWrits(), 0, 0, 0, i), Check.THROWN);
        }
        Check.same("the second of one", Check.rests(new OtterWrits(), 0, 9, 9, 1), Check.THROWN);
        Check.same("the third of two", Check.rests(new OtterWrits(), 9, 9, 9, 2), Check.THROWN);
        Check.same("the fourth of three", Check.rests(new OtterWrits(), 0, 0, 9, 3), Check.THROWN);
        for (int what = -1; what < 4; what++) {
            int asked = what;
            range("rests(both, 0, 0)", 0, 9, Check.THROWN, true, both -> Check.rests(new OtterWrits(), both, 0, 0, asked));
            range("rests(0, loses, 0)", 0, 9, Check.THROWN, true, loses -> Check.rests(new OtterWrits(), 0, loses, 0, asked));
            range("rests(0, 0, gets)", 0, 9, Check.THROWN, true, gets -> Check.rests(new OtterWrits(), 0, 0, gets, asked));
        }
        OtterWrits x = Check.told(MIXED);
        Check.stays("it throws", x, () -> Check.rests(x, 10, 0, 0, -1), Check.THROWN);
    }

    private static void mark() {
        for (int m : new int[] {LOW, -2, -1, 4, 5, HIGH}) {
            OtterWrits x = Check.told(MIXED);
            Check.refused("none such: " + m, x, () -> x.mark(m, false));
            Check.refused("none such: back to " + m, x, () -> x.mark(m, true));
        }
        for (int m = 0; m < 4; m++) {
            OtterWrits x = Check.told(MIXED);
            x.day();
            int at = m;
            Check.refused("nothing is on " + m, x, () -> x.mark(at, true));
            Check.yes("laid", x.mark(m, false));
            for (int other = 0; other < 4; other++) {
                if (other != m) {
                    Check.no("nothing is on " + other, x.mark(other, true));
                }
            }
            x.day();
            Check.yes("gone back to", x.mark(m, true));
            Check.same("its day", x.count(5), 1);
            Check.yes("it is still there", x.mark(m, true));
        }
    }

    private static void count() {
        OtterWrits x = Check.told(Tell.full());
        int[] ahead = {7, 10, 5, 3, 6, 0, 0, 63, 0, 0, 0, 0, 0};
        for (int what = 0; what <= 12; what++) {
            Check.same("count(" + what + ")", x.count(what), ahead[what]);
        }
        Check.session(x, "day;day;day;");
        x.take(0, 1);
        x.serve(1);
        x.day();
        x.see(6, 9, false);
        x.see(6, 9, true);
        Check.feed(x, "abcd");
        int[] behind = {7, 10, 5, 3, 6, 1, 1, wetBits(x), 2, 3, 2, 3, 4};
        for (int what = 0; what <= 12; what++) {
            Check.same("count(" + what + ")", x.count(what), behind[what]);
        }
    }

    private static int wetBits(OtterWrits x) {
        int bits = 0;
        for (int p = 0; p < 7; p++) {
            bits |= x.place(p, 0) >= 1 ? 1 << p : 0;
        }
        return bits;
    }
}
