/** Terms, part 3, second half: what hangs together, an unknown rain, chance, answers at rest, sessions by draws, marks. */
final class NowEdges {
    private NowEdges() {
    }

    static void all() {
        Edge.in("Terms 3");
        Edge.of("LATE: WRITS that are (bits).", NowEdges::late);
        Edge.of("MAY of a WRIT: whether it can be SERVED now.", NowEdges::may);
        Edge.of("CAN of an OTTER: PLACES to which it can SWIM now (bits).", NowEdges::can);
        Edge.of("REACH of a PLACE: those to which one comes by streams, itself, too (bits)", NowEdges::reach);
        Edge.of("POOL of it: those to which one comes so over WET ones alone, itself, too (0: it is not WET; bits).", NowEdges::pool);
        Edge.of("FAR of two PLACES: over how many streams, at least.", NowEdges::far);
        Edge.of("POOLS: how many there are.", NowEdges::pools);
        Edge.of("BRIDGES: streams, how many, each alone, without which its two PLACES were not in one REACH.", NowEdges::bridges);
        Edge.of("WARM: the PLACE that has the most PERSONS; of equal ones the first.", NowEdges::warm);
        Edge.of("HUNTED: the PERSON for whom there are the most WRITS not SERVED; of equal ones the first (nobody, if there is no such WRIT).",
                NowEdges::hunted);
        Edge.of("SEEN: that tomorrow, by an unknown rain (0 to 9) today, a PLACE has so much water (0 to 9) or more, or less", NowEdges::seen);
        Edge.of("8 at most.", NowEdges::seenEight);
        Edge.of("RAINS by which all SEEN is so, all being as it is when it is asked (bits).", NowEdges::rains);
        Edge.of("LOOK: the PLACE, and how much (1 to 9), by which the greater number of these by which it has so much or more, or less, is the "
                + "least, if that is less than all", NowEdges::look);
        Edge.of("of equal ones the first by PLACES, then the least.", NowEdges::lookOfEqualOnes);
        Edge.of("CHANCE: each of so many (1 to 6) DAYS has a rain of 9 by odds of ten, else of 0, in place of what is told: that a PLACE is WET "
                + "behind these, in millionths, cut.", NowEdges::chance);
        Edge.of("ANSWER of two: each shows cause or waits: both show it: each gets so much (0 to 9); one does: he loses so much (0 to 9), the "
                + "other one gets so much (0 to 9); both wait: nothing: RESTS: by which neither would get more by the other.", NowEdges::rests);
        Edge.of("A DRAW below m: g becomes (g * 1103515245 + 12345) modulo 2147483648 (g is the SEED at first); it is g / 65536, cut, modulo m.",
                NowEdges::draws);
        Edge.of("SESSIONS by a SEED of so many DAYS (1 to 99), from now on (all is as ahead then): each, if there are OTTERS: a DRAW below these, "
                + "one below PLACES, one below 5: 0, 1, 2: that one SWIMS there, 3, if there are WRITS: a DRAW below these: it TAKES that, 4, if "
                + "there are: a DRAW below these: that is SERVED (each if it can be); then, also without these, the DAY", NowEdges::sessions);
        Edge.of("how many were SERVED in these; water of all PLACES at last, together; which PERSONS are in the ASSIZE at last, as bits.",
                NowEdges::sessionsAtLast);
        Edge.of("MARKS 0 to 3 hold how it is, the SESSION, what is SEEN (nothing can be undone when one is gone back to).", NowEdges::marks);
        Edge.of("The constants: `NONE = -1`: None.", () -> Check.same("NONE", OtterWrits.NONE, -1));
    }

    private static void late() {
        OtterWrits x = Check.told(Tell.places(1) + Tell.persons("plain 0") + Tell.writs(0, 0, 0, 0, 0, 0, 0, 0, 0, 0, 0, 0));
        Check.same("none", x.late(), 0);
        x.day();
        Check.same("all six", x.late(), 63);
        Check.same("no WRITS", new OtterWrits().late(), 0);
    }

    private static void may() {
        OtterWrits x = Check.told(Tell.places(1, 0) + Tell.persons("plain 0", "plain 1") + Tell.otters(0, 1, 1, 1) + Tell.writs(0, 0, 1, 0));
        Check.no("at the ASSIZE", x.may(0));
        x.take(0, 0);
        Check.yes("with an OTTER, there", x.may(0));
        Check.same("asked alone, it is not SERVED", x.writ(0, 2), 0);
        x.serve(0);
        Check.no("SERVED", x.may(0));
        x.undo();
        Check.yes("undone", x.may(0));
        x.take(0, 1);
        Check.no("elsewhere", x.may(1));
    }

    private static void can() {
        OtterWrits x = Check.told(Tell.places(1, 1, 0, 9, 1, 1, 1) + Tell.streams(0, 1, 2, 0, 0, 3, 4, 0, 6, 0, 1, 5) + Tell.otters(0, 1, 2, 3, 5, 2));
        Check.same("to all wet ones round it", x.can(0), 2 + 8 + 16 + 64);
        Check.same("from a dry one", x.can(1), 0);
        Check.same("to one", x.can(2), 2);
        x.swim(0, 6);
        Check.same("it has swum", x.can(0), 0);
        x.swim(2, 1);
        Check.same("one is left", x.can(2), 1 + 32);
        Check.same("asked alone, it does not swim", x.otter(2, 2), 1);
    }

    private static void reach() {
        OtterWrits x = Check.told(Tell.places(0, 0, 0, 0, 0, 0, 0) + Tell.streams(6, 0, 5, 6, 5, 3, 1, 2));
        int[] due = {105, 6, 6, 105, 16, 105, 105};
        for (int p = 0; p < 7; p++) {
            Check.same("dry or not, of " + p, x.reach(p), due[p]);
        }
        OtterWrits line = Check.told(Tell.places(1, 0, 1, 0, 1, 0, 1) + Tell.streams(0, 6, 6, 1, 1, 5, 5, 2, 2, 4, 4, 3));
        Check.same("over six streams", line.reach(0), 127);
        Check.same("and back", line.reach(3), 127);
        Check.same("itself alone", Check.told(Tell.places(1)).reach(0), 1);
    }

    private static void pool() {
        OtterWrits x = Check.told(Tell.places(1, 2, 0, 3, 1, 9, 1) + Tell.streams(0, 1, 1, 2, 2, 3, 3, 4, 4, 5));
        int[] due = {3, 3, 0, 56, 56, 56, 64};
        for (int p = 0; p < 7; p++) {
            Check.same("of " + p, x.pool(p), due[p]);
        }
        OtterWrits line = Check.told(Tell.places(1, 1, 1, 1, 1, 1, 1) + Tell.streams(0, 6, 6, 1, 1, 5, 5, 2, 2, 4, 4, 3));
        Check.same("over six streams", line.pool(0), 127);
        Check.same("and back", line.pool(3), 127);
        OtterWrits dries = Check.told(Tell.places(1, 2) + Tell.streams(0, 1) + "rain 0;");
        Check.same("today", dries.pool(1), 3);
        dries.day();
        Check.same("tomorrow", dries.pool(1), 2);
        Check.same("a dry one", dries.pool(0), 0);
    }

    private static void far() {
        OtterWrits x = Check.told(Tell.places(0, 0, 0, 0, 0, 0, 0) + Tell.streams(0, 1, 1, 2, 2, 3, 3, 4, 4, 0, 4, 5));
        int[][] due = {{0, 1, 2, 2, 1, 2, -1}, {1, 0, 1, 2, 2, 3, -1}, {2, 1, 0, 1, 2, 3, -1}, {2, 2, 1, 0, 1, 2, -1}};
        for (int p = 0; p < 4; p++) {
            for (int o = 0; o < 7; o++) {
                Check.same("from " + p + " to " + o, x.far(p, o), due[p][o]);
                Check.same("from " + o + " to " + p, x.far(o, p), due[p][o]);
            }
        }
        Check.same("one alone, to itself", x.far(6, 6), 0);
        OtterWrits line = Check.told(Tell.places(0, 0, 0, 0, 0, 0, 0) + Tell.streams(0, 6, 6, 1, 1, 5, 5, 2, 2, 4, 4, 3));
        Check.same("as far as can be", line.far(0, 3), 6);
        Check.same("five", line.far(0, 4), 5);
    }

    private static void pools() {
        Check.same("no PLACES", new OtterWrits().pools(), 0);
        Check.same("all dry", Check.told(Tell.places(0, 0) + Tell.streams(0, 1)).pools(), 0);
        Check.same("one", Check.told(Tell.places(1, 1) + Tell.streams(0, 1)).pools(), 1);
        Check.same("two without a stream", Check.told(Tell.places(1, 1)).pools(), 2);
        Check.same("two with a dry one between", Check.told(Tell.places(1, 0, 1) + Tell.streams(0, 1, 1, 2)).pools(), 2);
        Check.same("seven", Check.told(Tell.places(1, 2, 3, 4, 5, 6, 7)).pools(), 7);
        Check.same("two, one within the other's numbers", Check.told(Tell.places(1, 1, 1, 1, 1) + Tell.streams(0, 2, 1, 3, 2, 4)).pools(), 2);
        Check.same("dry ones are none", Check.told(Tell.places(1, 0, 3, 0, 5, 0, 7)).pools(), 4);
    }

    private static void bridges() {
        Check.same("none", Check.told(Tell.places(1, 1, 1)).bridges(), 0);
        Check.same("one", Check.told(Tell.places(0, 0) + Tell.streams(0, 1)).bridges(), 1);
        Check.same("a ring of three", Check.told(Tell.places(1, 1, 1) + Tell.streams(0, 1, 1, 2, 2, 0)).bridges(), 0);
        Check.same("a ring of seven", Check.told(Tell.places(1, 1, 1, 1, 1, 1, 1) + Tell.streams(0, 1, 1, 2, 2, 3, 3, 4, 4, 5, 5, 6, 6, 0)).bridges(), 0);
        Check.same("a line of seven, dry or not", Check.told(Tell.places(1, 0, 1, 0, 1, 0, 1) + Tell.streams(0, 6, 6, 1, 1, 5, 5, 2, 2, 4, 4, 3)).bridges(), 6);
        OtterWrits two = Check.told(Tell.places(1, 1, 1, 1, 1, 1, 1) + Tell.streams(0, 1, 1, 2, 2, 0, 2, 3, 3, 4, 4, 5, 5, 3, 5, 6));
        Check.stays("two rings, one between, one at the end", two, two::bridges, 2);
        Check.same("a star", Check.told(Tell.places(1, 1, 1, 1, 1, 1, 1) + Tell.streams(6, 0, 6, 1, 6, 2, 6, 3, 6, 4, 6, 5)).bridges(), 6);
    }

    private static void warm() {
        Check.same("no PERSONS", Check.told(Tell.places(1, 1)).warm(), -1);
        Check.same("one", Check.told(Tell.places(1, 1) + Tell.persons("plain 1")).warm(), 1);
        Check.same("of equal ones", Check.told(Tell.places(1, 1, 1) + Tell.persons("plain 2", "plain 1")).warm(), 1);
        Check.same("of equal ones by two", Check.told(Tell.places(1, 1, 1) + Tell.persons("plain 2", "plain 1", "plain 0", "plain 1", "plain 2")).warm(), 1);
        Check.same("the most", Check.told(Tell.places(1, 1, 1) + Tell.persons("plain 2", "plain 1", "plain 2")).warm(), 2);
        OtterWrits x = Check.told(Tell.places(1, 2) + Tell.streams(0, 1) + Tell.persons("bather 0", "bather 0", "dewy 0"));
        Check.same("today", x.warm(), 0);
        x.day();
        Check.same("tomorrow", x.warm(), 1);
        Check.same("five in the last", Check.told(Tell.places(1, 1, 1, 1, 1, 1, 1) + Tell.persons("plain 6", "plain 6", "plain 6", "plain 6", "plain 6")).warm(), 6);
    }

    private static void hunted() {
        String people = Tell.places(1) + Tell.persons("plain 0", "plain 0", "plain 0") + Tell.otters(0, 1);
        Check.same("no WRITS", Check.told(people).hunted(), -1);
        Check.same("no PERSONS", new OtterWrits().hunted(), -1);
        Check.same("one", Check.told(people + Tell.writs(2, 0)).hunted(), 2);
        Check.same("of equal ones", Check.told(people + Tell.writs(2, 0, 1, 0)).hunted(), 1);
        Check.same("the most", Check.told(people + Tell.writs(0, 0, 2, 0, 2, 0, 1, 0)).hunted(), 2);
        OtterWrits x = Check.told(people + Tell.writs(0, 0, 2, 0, 2, 0));
        x.take(0, 1);
        Check.same("with an OTTER is not SERVED", x.hunted(), 2);
        x.serve(1);
        Check.same("one each: the first", x.hunted(), 0);
        x.take(0, 2);
        x.serve(2);
        Check.same("one left", x.hunted(), 0);
        x.take(0, 0);
        x.serve(0);
        Check.same("none left", x.hunted(), -1);
        x.undo();
        Check.same("undone", x.hunted(), 0);
    }

    /** A place that has 0, and tomorrow as much as falls. */
    private static OtterWrits bucket() {
        return Check.told("place pa water 0;rain 5;wets falls;");
    }

    private static void seen() {
        for (int much = 0; much <= 9; much++) {
            OtterWrits more = bucket();
            Check.yes("or more", more.see(0, much, true));
            Check.same(much + " or more", more.rains(), 1023 & -(1 << much));
            OtterWrits less = bucket();
            Check.yes("or less", less.see(0, much, false));
            Check.same("less than " + much, less.rains(), (1 << much) - 1);
        }
        for (int much : new int[] {-1, 10, Integer.MIN_VALUE, Integer.MAX_VALUE}) {
            OtterWrits x = bucket();
            Check.refused("so much: " + much, x, () -> x.see(0, much, true));
            Check.refused("less than so much: " + much, x, () -> x.see(0, much, false));
        }
        OtterWrits today = Check.told("place pa water 3;rain 5 0;");
        today.see(0, 6, true);
        Check.same("by the water there is, not by the rain told", today.rains(), 1023 & -(1 << 4));
        OtterWrits none = bucket();
        Check.same("asked without anything SEEN", none.rains(), 1023);
    }

    private static void seenEight() {
        OtterWrits x = bucket();
        for (int i = 1; i <= 8; i++) {
            Check.yes("the number " + i, x.see(0, i, true));
            Check.same("SEEN", x.count(10), i);
        }
        Check.refused("a ninth", x, () -> x.see(0, 9, true));
        Check.refused("one that is there", x, () -> x.see(0, 1, true));
        Check.same("all eight count", x.rains(), 512 + 256);
        OtterWrits same = bucket();
        for (int i = 0; i < 8; i++) {
            Check.yes("the same again is one more", same.see(0, 3, false));
        }
        Check.no("a ninth", same.see(0, 3, false));
        Check.same("a county is told", Check.county(same, "place pa water 0;wets falls;"), 0);
        Check.yes("there is room again", same.see(0, 3, false));
    }

    private static void rains() {
        OtterWrits x = Check.told(Tell.places(2, 0) + Tell.streams(0, 1) + "rain 0 1;");
        x.see(0, 4, true);
        x.see(1, 5, false);
        Check.same("3 or more, 5 or less", x.rains(), 8 + 16 + 32);
        x.day();
        Check.same("as it is when it is asked: 1 and 0", x.rains(), 16 + 32);
        x.undo();
        Check.same("as it was", x.rains(), 8 + 16 + 32);
        OtterWrits none = bucket();
        none.see(0, 5, true);
        none.see(0, 5, false);
        Check.same("both can't be", none.rains(), 0);
        OtterWrits all = bucket();
        all.see(0, 0, true);
        Check.same("0 or more is always so", all.rains(), 1023);
        all.see(0, 0, false);
        Check.same("less than 0 never", all.rains(), 0);
        OtterWrits one = bucket();
        one.see(0, 9, true);
        Check.same("9", one.rains(), 512);
        OtterWrits nought = bucket();
        nought.see(0, 1, false);
        Check.same("0", nought.rains(), 1);
        OtterWrits date = Check.told("place pa water 0;wets falls*date;");
        date.see(0, 1, true);
        Check.same("by the date 0", date.rains(), 0);
        date.day();
        Check.same("by the date 1", date.rains(), 1022);
        OtterWrits cut = Check.told("place pa water 9;");
        cut.see(0, 9, true);
        Check.same("cut at 9", cut.rains(), 1022);
        OtterWrits ways = Check.told(Tell.places(0, 0, 0) + Tell.streams(0, 1, 1, 2) + "wets falls*(ways=2);");
        ways.see(1, 4, true);
        Check.same("by its streams", ways.rains(), 1023 & -(1 << 4));
    }

    private static void look() {
        Check.same("no PLACES", new OtterWrits().look(), -1);
        Check.same("5 parts ten by five", bucket().look(), 5);
        Check.same("rain does not matter", Check.told("place pa water 0;wets level;").look(), -1);
        Check.same("9 parts", Check.told("place pa water 0;wets 8+(4<falls);").look(), 9);
        Check.same("1 parts", Check.told("place pa water 0;wets (4<falls);").look(), 1);
        Check.same("one from nine", Check.told("place pa water 0;wets 3*(falls=0);").look(), 1);
        Check.same("0 or more does not part", Check.told("place pa water 0;wets 0-falls;").look(), -1);
        Check.same("9 and more are alike", Check.told("place pa water 0;wets 9+falls;").look(), -1);
        OtterWrits two = bucket();
        two.see(0, 8, true);
        Check.same("8 from 9", two.look(), 9);
        two.see(0, 9, true);
        Check.same("one is left", two.look(), -1);
        two.see(0, 9, false);
        Check.same("none is left", two.look(), -1);
        OtterWrits three = bucket();
        three.see(0, 3, false);
        Check.same("0, 1, 2: one from two", three.look(), 1);
        OtterWrits far = Check.told(Tell.places(0, 0, 0, 0, 0, 0, 0) + Tell.streams(0, 1, 0, 2, 0, 3, 0, 4, 0, 5, 1, 2, 3, 4, 5, 1) + "wets (ways=0)*falls;");
        Check.same("in the last PLACE", far.look(), 65);
    }

    private static void lookOfEqualOnes() {
        Check.same("of PLACES the first", Check.told(Tell.places(0, 0, 0) + "wets falls;").look(), 5);
        Check.same("of so much the least", Check.told("place pa water 0;wets 9*(4<falls);").look(), 1);
        Check.same("the greater counts, not the less", Check.told("place pa water 0;wets 2*(0<falls)+2*(8<falls);").look(), 1);
        OtterWrits later = Check.told(Tell.places(0, 0, 0) + Tell.streams(0, 1, 0, 2) + "wets (ways=2)*9*(3<falls)+(ways=1)*9*(4<falls);");
        Check.same("a later PLACE that parts better", later.look(), 11);
        OtterWrits lower = Check.told("place pa water 0;wets falls+1-(falls<4)*4;");
        Check.same("of how much the one that parts best", lower.look(), 6);
    }

    private static void chance() {
        OtterWrits x = Check.told("place pa water 0;rain 5;wets falls;");
        for (int days = 1; days <= 6; days++) {
            for (int odds = 0; odds <= 10; odds++) {
                Check.same("the last of " + days + " by " + odds, x.chance(0, days, odds), odds * 100000);
            }
        }
        for (int no : new int[] {0, 7, -1, Integer.MIN_VALUE, Integer.MAX_VALUE}) {
            Check.same("so many: " + no, x.chance(0, no, 1), -1);
        }
        for (int no : new int[] {-1, 11, Integer.MIN_VALUE, Integer.MAX_VALUE}) {
            Check.same("odds: " + no, x.chance(0, 1, no), -1);
        }
        OtterWrits all = Check.told("place pa water 1;wets level and falls;");
        OtterWrits any = Check.told("place pa water 0;wets level or falls;");
        int[] ones = {100000, 10000, 1000, 100, 10, 1};
        int[] nines = {900000, 810000, 729000, 656100, 590490, 531441};
        for (int days = 1; days <= 6; days++) {
            Check.same("all " + days + " by 1", all.chance(0, days, 1), ones[days - 1]);
            Check.same("all " + days + " by 9", all.chance(0, days, 9), nines[days - 1]);
            Check.same("any of " + days + " by 1", any.chance(0, days, 1), 1000000 - nines[days - 1]);
            Check.same("all by 0", all.chance(0, days, 0), 0);
            Check.same("all by 10", all.chance(0, days, 10), 1000000);
        }
        OtterWrits full = Check.told("place pa water 1;wets (falls=9)*9;");
        Check.same("a rain of 9", full.chance(0, 1, 4), 400000);
        OtterWrits none = Check.told("place pa water 1;wets falls=0;");
        Check.same("a rain of 0", none.chance(0, 1, 4), 600000);
        OtterWrits date = Check.told("place pa water 0;wets (date=5)*falls;");
        Check.same("behind 6", date.chance(0, 6, 3), 300000);
        Check.same("behind 5", date.chance(0, 5, 3), 0);
        date.day();
        Check.same("from the day 1, behind 5", date.chance(0, 5, 3), 300000);
        OtterWrits dries = Check.told("place pa water 6;rain 9;");
        Check.same("6 lasts five days", dries.chance(0, 5, 0), 1000000);
        Check.stays("not six", dries, () -> dries.chance(0, 6, 0), 0);
    }

    private static void rests() {
        OtterWrits x = new OtterWrits();
        for (int both = 0; both <= 9; both++) {
            for (int loses = 0; loses <= 9; loses++) {
                int gets = (both + loses) % 10;
                for (int other = 0; other < 2; other++) {
                    int least = other == 0 ? gets : both;
                    int many = 1 + (both >= least ? 1 : 0) + (loses == 0 && least >= both ? 2 : 0);
                    x = new OtterWrits();
                    String call = "both " + both + ", loses " + loses + ", gets " + least;
                    Check.same(call, Check.rests(x, both, loses, least, -1), many);
                    Check.same(call + ": both wait", Check.rests(x, both, loses, least, 0), 0);
                    if (loses == 0 && least >= both) {
                        Check.same(call + ": the other one shows it", Check.rests(x, both, loses, least, 1), 1);
                        Check.same(call + ": the first one shows it", Check.rests(x, both, loses, least, 2), 2);
                    }
                    if (both >= least) {
                        Check.same(call + ": both show it", Check.rests(x, both, loses, least, many - 1), 3);
                    }
                    Check.same(call + ": no more", Check.rests(x, both, loses, least, many), Check.THROWN);
                }
            }
        }
        for (int no : new int[] {-1, 10, Integer.MIN_VALUE, Integer.MAX_VALUE}) {
            Check.same("both " + no, Check.rests(x, no, 0, 0, -1), Check.THROWN);
            Check.same("loses " + no, Check.rests(x, 0, no, 0, -1), Check.THROWN);
            Check.same("gets " + no, Check.rests(x, 0, 0, no, -1), Check.THROWN);
            Check.same("both " + no, Check.rests(x, no, 0, 0, 0), Check.THROWN);
        }
    }

    /** The document's draws, by numbers that do not wrap. */
    private static final class Draws {
        private java.math.BigInteger g;

        Draws(int seed) {
            g = java.math.BigInteger.valueOf(seed);
        }

        int below(int m) {
            g = g.multiply(java.math.BigInteger.valueOf(1103515245)).add(java.math.BigInteger.valueOf(12345))
                    .mod(java.math.BigInteger.valueOf(2147483648L));
            return g.divide(java.math.BigInteger.valueOf(65536)).mod(java.math.BigInteger.valueOf(m)).intValue();
        }
    }

    /** What a session by draws leaves, done by hand on another object. */
    private static OtterWrits byHand(String county, int seed, int days, int[] served) {
        OtterWrits x = Check.told(county);
        Draws draws = new Draws(seed);
        int places = x.count(0);
        int otters = x.count(3);
        int writs = x.count(4);
        for (int d = 0; d < days; d++) {
            if (otters > 0) {
                int otter = draws.below(otters);
                int place = draws.below(places);
                int choice = draws.below(5);
                if (choice < 3) {
                    x.swim(otter, place);
                } else if (writs > 0) {
                    int writ = draws.below(writs);
                    if (choice == 3) {
                        x.take(otter, writ);
                    } else if (x.serve(writ) != -1) {
                        served[0]++;
                    }
                }
            }
            x.day();
        }
        return x;
    }

    private static int waterOf(OtterWrits x) {
        int sum = 0;
        for (int p = 0; p < x.count(0); p++) {
            sum += x.place(p, 0);
        }
        return sum;
    }

    private static void drawn(String county, int seed, int days) {
        OtterWrits x = Check.told(county);
        int[] served = new int[1];
        OtterWrits hand = byHand(county, seed, days, served);
        String call = "seed " + seed + ", " + days + " days: ";
        String ahead = Check.all(x);
        Check.same(call + "served", x.sessions(seed, days, 0), served[0]);
        Check.same(call + "water", x.sessions(seed, days, 1), waterOf(hand));
        Check.same(call + "persons", x.sessions(seed, days, 2), x.count(0) == 0 ? 0 : hand.place(0, 2));
        Check.equal(call + "all is as ahead", Check.all(x), ahead);
    }

    private static final String COURT = Tell.places(5, 5, 5) + Tell.streams(0, 1, 1, 2) + Tell.persons("plain 0", "dewy 1", "bather 1")
            + Tell.otters(0, 3, 0, 2) + Tell.writs(0, 0, 1, 0, 0, 5) + "rain 1 1 2 0;";

    private static void draws() {
        // By hand: 12345 / 65536 is 0; then 1406932606 / 65536 is 21468, 654583775 gives 9988, 1449466924 gives 22117.
        Draws zero = new Draws(0);
        int[] due = {0, 21468, 9988, 22117};
        for (int i = 0; i < 4; i++) {
            Check.same("draw " + i, zero.below(32768), due[i]);
        }
        OtterWrits one = Check.told(Tell.places(1) + Tell.persons("plain 0") + Tell.otters(0, 1) + Tell.writs(0, 0) + "wets level;");
        Check.same("served", one.sessions(0, 99, 0), 1);
        for (int seed : new int[] {0, 1, 2, 4999, 9998, 9999}) {
            drawn(COURT, seed, 99);
            drawn(COURT, seed, 30);
        }
    }

    private static void sessions() {
        for (int days : new int[] {1, 2, 3, 10, 98, 99}) {
            drawn(COURT, 7, days);
            drawn(Tell.full(), 11, days);
            drawn(Tell.places(3, 2) + Tell.streams(0, 1) + Tell.persons("bather 0", "wary 0") + Tell.writs(0, 0), 3, days);
            drawn(Tell.places(3, 2) + Tell.streams(0, 1) + Tell.persons("bather 0") + Tell.otters(0, 1, 1, 2, 0, 3), 3, days);
            drawn("", 3, days);
        }
        OtterWrits x = Check.told(COURT);
        for (int no : new int[] {0, 100, -1, Integer.MIN_VALUE, Integer.MAX_VALUE}) {
            for (int what = 0; what < 3; what++) {
                Check.same("days " + no, x.sessions(1, no, what), -1);
            }
        }
        OtterWrits rain = Check.told(Tell.places(0) + "rain 0 0 9;");
        Check.same("from now on: the day 0", rain.sessions(0, 1, 1), 0);
        rain.day();
        rain.day();
        Check.same("from now on: the day 2", rain.sessions(0, 1, 1), 8);
    }

    private static void sessionsAtLast() {
        OtterWrits x = Check.told(Tell.places(1) + Tell.persons("plain 0", "plain 0") + Tell.otters(0, 1) + Tell.writs(0, 0, 1, 0) + "wets level;");
        int all = x.sessions(5, 99, 0);
        Check.same("both", all, 2);
        x.take(0, 0);
        x.serve(0);
        Check.same("those SERVED ahead do not count", x.sessions(5, 99, 0), 1);
        OtterWrits full = Check.told(Tell.places(9, 9, 9, 9, 9, 9, 9) + "rain 9;");
        Check.same("as much water as can be", full.sessions(0, 99, 1), 63);
        OtterWrits dry = Check.told(Tell.places(0, 0, 0, 0, 0, 0, 0) + "rain 0;");
        Check.same("none", dry.sessions(0, 99, 1), 0);
        OtterWrits goes = Check.told(Tell.places(9, 5, 0) + Tell.streams(0, 1) + Tell.persons("wary 0", "bather 1", "plain 0", "plain 2", "dewy 0") + "wets level;");
        Check.same("who is in the ASSIZE at last", goes.sessions(0, 1, 2), 2 + 4 + 16);
        OtterWrits five = Check.told(Tell.places(9) + Tell.persons("wary 0", "bather 0", "plain 0", "plain 0", "dewy 0"));
        Check.same("all five", five.sessions(0, 99, 2), 31);
        Check.same("nobody", Check.told(Tell.places(9)).sessions(0, 99, 2), 0);
    }

    private static OtterWrits marked() {
        return Check.told(Tell.places(5, 4) + Tell.streams(0, 1) + Tell.persons("bather 1", "plain 0") + Tell.otters(0, 2) + Tell.writs(1, 1, 0, 2) + "rain 0 3;");
    }

    private static void marks() {
        OtterWrits x = marked();
        String[] held = new String[4];
        for (int m = 0; m < 4; m++) {
            switch (m) {
                case 0:
                    x.take(0, 0);
                    Check.session(x, "day;");
                    break;
                case 1:
                    x.swim(0, 1);
                    x.see(0, 3, true);
                    break;
                case 2:
                    x.swim(0, 0);
                    x.serve(0);
                    x.see(1, 2, false);
                    break;
                default:
                    x.day();
                    Check.session(x, "serve wa;day;");
            }
            Check.yes("mark " + m, x.mark(m, false));
            held[m] = Check.all(x).replaceFirst("^((\\d+ ){11})\\d+ ", "$1" + "0 ");
        }
        for (int m : new int[] {2, 0, 3, 1, 1}) {
            Check.yes("back to " + m, x.mark(m, true));
            Check.same("nothing can be undone", x.count(11), 0);
            Check.no("undo", x.undo());
        }
        for (int m = 3; m >= 0; m--) {
            Check.yes("back to " + m, x.mark(m, true));
            Check.equal("as it was on " + m, Check.all(x), held[m]);
        }
        moreOfMarks();
    }

    /** Between the laying and the going back others stand where the held ones stood. */
    private static void whatMarksHold() {
        OtterWrits x = marked();
        x.mark(0, false);
        x.see(0, 5, true);
        x.see(1, 7, false);
        Check.session(x, "take oa wb;swim oa pb;serve wb;serve wa;");
        x.mark(1, false);
        int rains = x.rains();
        x.mark(0, true);
        x.see(1, 9, false);
        x.see(0, 9, true);
        Check.same("other rains", x.rains(), 1023 & -(1 << 5) & (1 << 6) - 1);
        Check.session(x, "take oa wa;take oa wa;swim oa pb;take oa wb;");
        x.mark(2, false);
        Check.same("the second can't be", x.judged(0), 1);
        x.mark(1, true);
        Check.same("what is SEEN", x.rains(), 1023 & -(1 << 1) & (1 << 4) - 1);
        Check.same("as it was", x.rains(), rains);
        Check.same("the SESSION: the last can't be", x.judged(0), 3);
        Check.same("the SESSION: the third serves", x.judged(1), 2);
        x.mark(2, true);
        Check.same("what is SEEN there", x.rains(), 1 << 5);
        Check.same("the SESSION there", x.judged(0), 1);
        Check.same("none serves", x.judged(1), -1);
    }

    private static void moreOfMarks() {
        OtterWrits x = marked();
        x.take(0, 0);
        x.day();
        String ahead = Check.all(x);
        Check.yes("laid", x.mark(2, false));
        Check.equal("laying changes nothing, what can be undone neither", Check.all(x), ahead);
        for (int no : new int[] {-1, 4, Integer.MIN_VALUE, Integer.MAX_VALUE}) {
            Check.no("no such: " + no, x.mark(no, false));
            Check.no("no such: back to " + no, x.mark(no, true));
        }
        Check.refused("nothing is on 1", x, () -> x.mark(1, true));
        OtterWrits y = marked();
        y.mark(0, false);
        y.day();
        y.mark(0, false);
        y.day();
        Check.yes("laid again: back", y.mark(0, true));
        Check.same("it is the second", y.count(5), 1);
        y.day();
        Check.same("behind it, one can be undone", y.count(11), 1);
        Check.yes("undone", y.undo());
        Check.same("to the MARK's day, no further", y.count(5), 1);
        Check.no("no more", y.undo());
        OtterWrits none = new OtterWrits();
        Check.yes("nothing can be laid, too", none.mark(3, false));
        none.day();
        Check.yes("and gone back to", none.mark(3, true));
        Check.same("day 0", none.count(5), 0);
        OtterWrits seen = marked();
        seen.mark(1, false);
        for (int i = 0; i < 8; i++) {
            seen.see(0, i, true);
        }
        Check.no("8 there are", seen.see(0, 1, true));
        seen.mark(1, true);
        Check.yes("there is room again", seen.see(0, 1, true));
        whatMarksHold();
        OtterWrits tape = marked();
        tape.mark(0, false);
        Check.feed(tape, "day");
        tape.mark(0, true);
        Check.same("the TAPE is not held", tape.count(12), 3);
    }
}
