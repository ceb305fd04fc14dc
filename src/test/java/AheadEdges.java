/** Terms, part 3, first half: days going by, how soon, which otter for which writ. */
final class AheadEdges {
    private AheadEdges() {
    }

    static void all() {
        Edge.in("Terms 3");
        Edge.of("(DAYS going by, nothing else being done.)", AheadEdges::nothingElse);
        Edge.of("LATER: the water of a PLACE behind so many (0 to 60) DAYS.", AheadEdges::later);
        Edge.of("WHERE: the PLACE of a PERSON behind so many (0 to 60).", AheadEdges::where);
        Edge.of("DRY: behind how many (0 to 60) a PLACE is not WET.", AheadEdges::dry);
        Edge.of("WET: behind how many (0 to 60) it is.", AheadEdges::wet);
        Edge.of("FLOOD: behind how many (0 to 60) all PLACES are WET.", AheadEdges::flood);
        Edge.of("CREST: behind how many of 0 to 60 DAYS a PLACE has the most water; of equal ones the first.", AheadEdges::crest);
        Edge.of("SAFE of a PERSON and so many (1 to 60) DAYS: the PLACES in which they could not be SERVED, whichever OTTER were there, now and "
                + "behind each number of DAYS up to these, were they to stay there (bits).", AheadEdges::safe);
        Edge.of("SOON of an OTTER and a PLACE: behind how many (0 to 60) DAYS it can be there, at the soonest, SWIMMING as it likes on each day",
                AheadEdges::soon);
        Edge.of("what it has swum today counted.", AheadEdges::soonBehindSwimming);
        Edge.of("SERVES of a WRIT and an OTTER: behind how many (0 to 60) DAYS that one can SERVE it, at the soonest, going as it likes, the "
                + "others not", AheadEdges::serves);
        Edge.of("if the WRIT is at the ASSIZE it has to be there on the way, TAKING it whatever else it has", AheadEdges::servesByTheAssize);
        Edge.of("none if it is SERVED, or with another one.", AheadEdges::servesNone);
        Edge.of("INTIME of a WRIT: OTTERS that can SERVE it by that on its day, or ahead (bits).", AheadEdges::intime);
        Edge.of("SHARE: one WRIT at most to each OTTER, none to two: the most WRITS that can be SERVED by SERVES at all", AheadEdges::shareTheMost);
        Edge.of("of equal ones the least DAYS, together", AheadEdges::shareTheLeastDays);
        Edge.of("of equal ones the first row (of WRITS, by OTTERS; none comes behind all others)", AheadEdges::shareTheFirstRow);
        Edge.of("how many; the DAYS; which.", AheadEdges::shareAnswers);
    }

    /** One place, whose water is 1 more by the day of this date. */
    private static OtterWrits rises(int water, int date) {
        return Check.told("place pa water " + water + ";wets level+(date=" + date + ");");
    }

    private static OtterWrits sinks(int water, int date) {
        return Check.told("place pa water " + water + ";wets level-(date=" + date + ");");
    }

    private static void nothingElse() {
        OtterWrits x = Check.told(Tell.full());
        x.take(0, 0);
        x.swim(0, 1);
        String ahead = Check.all(x);
        for (int p = 0; p < 2; p++) {
            x.later(p, 60);
            x.where(p, 60);
            x.dry(p);
            x.wet(p);
            x.crest(p);
            x.safe(p, 60);
            x.soon(p, 6);
            x.serves(p, p);
            x.intime(p);
            x.share(p);
        }
        x.flood();
        Check.equal("asking changes nothing", Check.all(x), ahead);
        OtterWrits y = Check.told(Tell.places(2) + "rain 0 3;");
        Check.same("from now", y.later(0, 2), 3);
        y.day();
        Check.same("from the next day", y.later(0, 2), 2);
        y.undo();
        Check.same("from now again", y.later(0, 2), 3);
    }

    private static void later() {
        OtterWrits x = Check.told(Tell.places(0, 9) + "wets level+(date<5)-(date=59);");
        int[][] due = {{0, 0, 9}, {1, 1, 9}, {5, 5, 9}, {6, 5, 9}, {59, 5, 9}, {60, 4, 8}};
        for (int[] row : due) {
            Check.same("pa behind " + row[0], x.later(0, row[0]), row[1]);
            Check.same("pb behind " + row[0], x.later(1, row[0]), row[2]);
        }
        for (int days : new int[] {-1, 61, 62, 100, Integer.MIN_VALUE, Integer.MAX_VALUE}) {
            Check.same("behind " + days, x.later(0, days), -1);
        }
        OtterWrits by = Check.told(Tell.full());
        OtterWrits hand = Check.told(Tell.full());
        for (int d = 0; d <= 60; d++) {
            Check.same("as by hand, behind " + d, by.later(d % 7, d), hand.place(d % 7, 0));
            hand.day();
        }
        for (int d = 0; d < 40; d++) {
            x.day();
        }
        Check.same("behind 60 from the day 40", x.later(1, 60), 8);
        Check.same("behind 19 from the day 40", x.later(1, 19), 9);
        Check.same("behind 20 from the day 40", x.later(1, 20), 8);
    }

    private static void where() {
        OtterWrits x = Check.told(Tell.places(5, 5) + Tell.streams(0, 1) + Tell.persons("bather 0", "wary 0", "plain 1", "dewy 0")
                + "wets level;");
        for (int q = 0; q < 4; q++) {
            Check.same("behind 0", x.where(q, 0), q == 2 ? 1 : 0);
            Check.same("behind 60", x.where(q, 60), q == 2 ? 1 : 0);
            for (int days : new int[] {-1, 61, Integer.MIN_VALUE, Integer.MAX_VALUE}) {
                Check.same("behind " + days, x.where(q, days), -1);
            }
        }
        OtterWrits y = Check.told(Tell.places(3, 2, 2) + Tell.streams(0, 1, 0, 2, 1, 2) + Tell.persons("bather 0", "wary 0", "plain 0")
                + "wets (level=3)*(date<59)*3+(level=3)*(date=59)+(level=2)*2;");
        Check.same("bather stays behind 59", y.where(0, 59), 0);
        Check.same("bather goes behind 60", y.where(0, 60), 1);
        Check.same("wary has gone behind 1", y.where(1, 1), 1);
        Check.same("wary goes back behind 60", y.where(1, 60), 0);
        Check.same("plain stays", y.where(2, 60), 0);
        OtterWrits by = Check.told(Tell.full());
        OtterWrits hand = Check.told(Tell.full());
        for (int d = 0; d <= 60; d++) {
            Check.same("as by hand, behind " + d, by.where(1 + d % 2, d), hand.person(1 + d % 2, 1));
            hand.day();
        }
    }

    private static void dry() {
        Check.same("now", Check.told("place pa water 0;rain 9;").dry(0), 0);
        Check.same("behind 1", sinks(1, 0).dry(0), 1);
        Check.same("behind 59", sinks(1, 58).dry(0), 59);
        Check.same("behind 60", sinks(1, 59).dry(0), 60);
        Check.same("not by 60", sinks(1, 60).dry(0), -1);
        Check.same("never", Check.told("place pa water 1;").dry(0), -1);
        Check.same("1 is not dry", sinks(2, 0).dry(0), -1);
        OtterWrits x = sinks(1, 60);
        x.day();
        Check.same("behind 60 from the day 1", x.dry(0), 60);
        OtterWrits y = Check.told("place pa water 1;wets (date=2)=0;");
        Check.same("the first time", y.dry(0), 3);
        for (int d = 0; d < 3; d++) {
            y.day();
        }
        Check.same("it is", y.dry(0), 0);
        y.day();
        Check.same("over", y.dry(0), -1);
    }

    private static void wet() {
        Check.same("now", Check.told("place pa water 1;rain 0;").wet(0), 0);
        Check.same("behind 1", rises(0, 0).wet(0), 1);
        Check.same("behind 59", rises(0, 58).wet(0), 59);
        Check.same("behind 60", rises(0, 59).wet(0), 60);
        Check.same("not by 60", rises(0, 60).wet(0), -1);
        Check.same("never", Check.told("place pa water 0;").wet(0), -1);
        OtterWrits x = rises(0, 60);
        x.day();
        Check.same("behind 60 from the day 1", x.wet(0), 60);
    }

    private static void flood() {
        Check.same("now", Check.told(Tell.places(1, 1, 1)).flood(), 0);
        Check.same("no PLACES", new OtterWrits().flood(), 0);
        Check.same("one is dry", Check.told(Tell.places(1, 1, 0)).flood(), -1);
        Check.same("the first is dry", Check.told(Tell.places(0, 1, 1)).flood(), -1);
        String law = "wets level+(level=0)*(date=";
        Check.same("behind 1", Check.told(Tell.places(1, 0) + law + "0);").flood(), 1);
        Check.same("behind 60", Check.told(Tell.places(1, 0) + law + "59);").flood(), 60);
        Check.same("not by 60", Check.told(Tell.places(1, 0) + law + "60);").flood(), -1);
        OtterWrits never = Check.told(Tell.places(1, 0) + "wets level=0;");
        Check.same("now this one, now that one", never.flood(), -1);
        Check.same("all seven", Check.told(Tell.places(1, 1, 1, 1, 1, 1, 0) + "wets level+1;").flood(), 1);
    }

    private static void crest() {
        Check.same("all alike", Check.told("place pa water 4;").crest(0), 0);
        Check.same("all 0", Check.told("place pa water 0;").crest(0), 0);
        Check.same("sinks", Check.told("place pa water 4;rain 0;").crest(0), 0);
        Check.same("rises to 9, behind 5", Check.told("place pa water 4;rain 2;").crest(0), 5);
        Check.same("behind 1", rises(0, 0).crest(0), 1);
        Check.same("behind 60", rises(0, 59).crest(0), 60);
        Check.same("not behind 61", rises(0, 60).crest(0), 0);
        OtterWrits x = Check.told("place pa water 1;wets (date=3)*7+(date=9)*7+(date=20)*6;");
        Check.same("of equal ones the first", x.crest(0), 4);
        for (int d = 0; d < 5; d++) {
            x.day();
        }
        Check.same("the second is the first then", x.crest(0), 5);
        OtterWrits y = Check.told("place pa water 9;wets 9;");
        Check.same("as much as can be, now", y.crest(0), 0);
    }

    private static void safe() {
        OtterWrits x = Check.told(Tell.places(0, 1, 2, 3, 9, 0, 0) + Tell.streams(5, 6) + Tell.persons("plain 4", "wary 4", "bather 4", "dewy 0")
                + "wets level+(date=59)*ways-(date=9)*(level=1);");
        Check.same("plain, 59", x.safe(0, 59), 97);
        Check.same("plain, 60", x.safe(0, 60), 1);
        Check.same("wary: less than 3", x.safe(1, 59), 103);
        Check.same("wary: 1 is less than 3", x.safe(1, 60), 103);
        Check.same("bather, as plain", x.safe(2, 59), 97);
        Check.same("dewy: nowhere", x.safe(3, 60), 0);
        Check.same("1 day", x.safe(0, 1), 97);
        for (int days : new int[] {0, -1, 61, Integer.MIN_VALUE, Integer.MAX_VALUE}) {
            Check.same("so many: " + days, x.safe(0, days), -1);
        }
        for (int d = 0; d < 10; d++) {
            x.day();
        }
        Check.same("pb has dried up by now", x.safe(0, 1), 99);
        Check.same("behind 49", x.safe(0, 49), 99);
        Check.same("behind 50: pf and pg are wet", x.safe(0, 50), 3);
        OtterWrits y = Check.told(Tell.places(2, 3) + Tell.persons("wary 0") + "wets level+(date=0)-(date=1)*9;");
        Check.same("wary: 3 behind a day", y.safe(0, 1), 0);
        y.day();
        y.day();
        Check.same("what was ahead does not count", y.safe(0, 1), 3);
        OtterWrits now = Check.told(Tell.places(1) + Tell.persons("plain 0") + "wets 0;");
        Check.same("now counts", now.safe(0, 1), 0);
        OtterWrits stay = Check.told(Tell.places(0, 9) + Tell.streams(0, 1) + Tell.persons("bather 0") + "wets level;");
        Check.same("were they to stay there, though they go", stay.safe(0, 60), 1);
    }

    private static void soon() {
        OtterWrits x = Check.told(Tell.places(1, 1, 1, 1, 1, 1, 1) + Tell.streams(0, 1, 1, 2, 2, 3, 3, 4, 4, 5, 5, 6) + Tell.otters(0, 1, 0, 2, 0, 3));
        int[][] due = {{0, 0, 1, 2, 3, 4, 5}, {0, 0, 0, 1, 1, 2, 2}, {0, 0, 0, 0, 1, 1, 1}};
        for (int o = 0; o < 3; o++) {
            for (int p = 0; p < 7; p++) {
                Check.same("pace " + (o + 1) + " to " + p, x.soon(o, p), due[o][p]);
            }
        }
        String pair = Tell.places(1, 0) + Tell.streams(0, 1) + Tell.otters(0, 1);
        Check.same("behind 60", Check.told(pair + "wets level+(date=59)*(level=0);").soon(0, 1), 60);
        Check.same("not by 60", Check.told(pair + "wets level+(date=60)*(level=0);").soon(0, 1), -1);
        Check.same("never", Check.told(pair).soon(0, 1), -1);
        Check.same("where it is, in a dry one", Check.told(Tell.places(0) + Tell.otters(0, 1)).soon(0, 0), 0);
        Check.same("from a dry one", Check.told(Tell.places(0, 1) + Tell.streams(0, 1) + Tell.otters(0, 1)).soon(0, 1), -1);
        Check.same("no stream", Check.told(Tell.places(1, 1) + Tell.otters(0, 1)).soon(0, 1), -1);
        OtterWrits wait = Check.told(Tell.places(1, 0, 1) + Tell.streams(0, 1, 1, 2) + Tell.otters(0, 1)
                + "wets (ways=1)+(ways=2)*(date=1 or date=5);");
        Check.same("into pb on the day 2", wait.soon(0, 1), 2);
        Check.same("it waits in the dry one", wait.soon(0, 2), 6);
        OtterWrits fast = Check.told(Tell.places(1, 0, 1) + Tell.streams(0, 1, 1, 2) + Tell.otters(0, 2)
                + "wets (ways=1)+(ways=2)*(date=1 or date=5);");
        Check.same("through it on one day", fast.soon(0, 2), 2);
        OtterWrits round = Check.told(Tell.places(1, 0, 1, 1) + Tell.streams(0, 1, 1, 3, 0, 2, 2, 3) + Tell.otters(0, 1));
        Check.same("round a dry one", round.soon(0, 3), 1);
    }

    private static void soonBehindSwimming() {
        OtterWrits x = Check.told(Tell.places(1, 1, 1, 1, 1) + Tell.streams(0, 1, 1, 2, 2, 3, 3, 4) + Tell.otters(0, 2, 0, 3));
        x.swim(0, 1);
        Check.same("one is left today", x.soon(0, 2), 0);
        Check.same("then two tomorrow", x.soon(0, 3), 1);
        Check.same("then two tomorrow", x.soon(0, 4), 1);
        x.swim(0, 2);
        Check.same("none is left: where it is", x.soon(0, 2), 0);
        Check.same("none is left: tomorrow", x.soon(0, 3), 1);
        Check.same("none is left: back", x.soon(0, 1), 1);
        Check.same("another one's are its own", x.soon(1, 3), 0);
        x.day();
        Check.same("a new day", x.soon(0, 4), 0);
    }

    private static void serves() {
        String pair = Tell.places(1, 0) + Tell.streams(0, 1) + Tell.otters(0, 1, 1, 1);
        String person = Tell.persons("plain 1") + Tell.writs(0, 0);
        Check.same("behind 60", Check.told(pair + person + "wets level+(date=59)*(level=0);").serves(0, 0), 60);
        Check.same("not by 60", Check.told(pair + person + "wets level+(date=60)*(level=0);").serves(0, 0), -1);
        Check.same("never", Check.told(pair + person).serves(0, 0), -1);
        OtterWrits here = Check.told(Tell.places(1) + Tell.otters(0, 1) + Tell.persons("plain 0", "wary 0", "dewy 0", "bather 0") + Tell.writs(0, 0, 1, 0, 2, 0, 3, 0)
                + "wets level+(date=59);");
        Check.same("plain, now", here.serves(0, 0), 0);
        Check.same("wary, not by 2", here.serves(1, 0), -1);
        Check.same("dewy, now", here.serves(2, 0), 0);
        Check.same("bather, now", here.serves(3, 0), 0);
        OtterWrits dry = Check.told(Tell.places(0) + Tell.otters(0, 1) + Tell.persons("plain 0", "wary 0", "dewy 0") + Tell.writs(0, 0, 1, 0, 2, 0)
                + "wets level+1;");
        Check.same("plain by 1", dry.serves(0, 0), 1);
        Check.same("wary by 3", dry.serves(1, 0), 3);
        Check.same("dewy by 0", dry.serves(2, 0), 0);
        OtterWrits late = Check.told(Tell.places(1) + Tell.otters(0, 1) + Tell.persons("plain 0") + Tell.writs(0, 0));
        late.day();
        Check.same("late, it can be served", late.serves(0, 0), 0);
        OtterWrits goes = Check.told(Tell.places(5, 5, 5, 9) + Tell.streams(0, 1, 1, 2, 2, 3) + Tell.otters(0, 1) + Tell.persons("bather 0") + Tell.writs(0, 0)
                + "wets level;");
        Check.same("one who stays", goes.serves(0, 0), 0);
        OtterWrits away = Check.told(Tell.places(1, 2, 3, 4, 9) + Tell.streams(0, 1, 1, 2, 2, 3, 3, 4) + Tell.otters(0, 1) + Tell.persons("bather 1")
                + Tell.writs(0, 0) + "wets level;");
        Check.same("one who is met today", away.serves(0, 0), 0);
        away.day();
        Check.same("one who goes on, till he stays", away.serves(0, 0), 3);
    }

    private static void servesByTheAssize() {
        String line = Tell.places(1, 1, 1) + Tell.streams(0, 1, 1, 2) + Tell.persons("plain 2", "plain 0");
        OtterWrits x = Check.told(line + Tell.otters(2, 1, 2, 2, 2, 3) + Tell.writs(0, 0, 1, 0));
        int[] due = {3, 1, 1};
        for (int o = 0; o < 3; o++) {
            Check.same("to the ASSIZE and back, pace " + (o + 1), x.serves(0, o), due[o]);
        }
        Check.same("in the ASSIZE, pace 1", x.serves(1, 0), 1);
        Check.same("in the ASSIZE, pace 2", x.serves(1, 1), 0);
        OtterWrits cut = Check.told(Tell.places(1, 0, 1) + Tell.streams(0, 1, 1, 2) + Tell.otters(2, 3) + Tell.persons("plain 2") + Tell.writs(0, 0));
        Check.same("it does not come to the ASSIZE", cut.serves(0, 0), -1);
        OtterWrits full = Check.told(line + Tell.otters(0, 2) + Tell.writs(0, 0, 0, 0, 0, 0));
        full.take(0, 0);
        full.take(0, 1);
        Check.no("it has two", full.take(0, 2));
        Check.same("whatever else it has", full.serves(2, 0), 0);
        full.swim(0, 1);
        Check.same("one that it has", full.serves(0, 0), 0);
        Check.same("back for another one, and on", full.serves(2, 0), 1);
        OtterWrits dry = Check.told(Tell.places(0, 1) + Tell.streams(0, 1) + Tell.otters(0, 1) + Tell.persons("plain 1", "dewy 0") + Tell.writs(0, 0, 1, 0));
        Check.same("taken in a dry ASSIZE, no way out", dry.serves(0, 0), -1);
        Check.same("taken in a dry ASSIZE, served there", dry.serves(1, 0), 0);
    }

    private static void servesNone() {
        OtterWrits x = Check.told(Tell.places(1, 1) + Tell.streams(0, 1) + Tell.otters(0, 1, 0, 1) + Tell.persons("plain 1") + Tell.writs(0, 0, 0, 9));
        Check.same("at the ASSIZE: the first", x.serves(0, 0), 0);
        Check.same("at the ASSIZE: the second", x.serves(0, 1), 0);
        x.take(0, 0);
        Check.same("with it", x.serves(0, 0), 0);
        Check.same("with another one", x.serves(0, 1), -1);
        Check.same("another WRIT", x.serves(1, 1), 0);
        x.swim(0, 1);
        Check.same("with it, there", x.serves(0, 0), 0);
        x.serve(0);
        Check.same("SERVED", x.serves(0, 0), -1);
        Check.same("SERVED", x.serves(0, 1), -1);
        x.undo();
        Check.same("undone", x.serves(0, 0), 0);
    }

    private static void intime() {
        OtterWrits x = Check.told(Tell.places(1, 1, 1, 1) + Tell.streams(0, 1, 1, 2, 2, 3) + Tell.otters(0, 1, 0, 2, 0, 3) + Tell.persons("plain 3")
                + Tell.writs(0, 0, 0, 1, 0, 2, 0, 60));
        int[] due = {4, 6, 7, 7};
        for (int w = 0; w < 4; w++) {
            Check.same("by " + x.writ(w, 1), x.intime(w), due[w]);
        }
        x.day();
        Check.same("by 0, on the day 1", x.intime(0), 0);
        Check.same("by 1, on the day 1", x.intime(1), 4);
        Check.same("by 2, on the day 1", x.intime(2), 6);
        x.day();
        Check.same("by 2, on the day 2", x.intime(2), 4);
        x.day();
        Check.same("by 2, on the day 3", x.intime(2), 0);
        x.take(1, 3);
        Check.same("with another one", x.intime(3), 2);
        String pair = Tell.places(1, 0) + Tell.streams(0, 1) + Tell.otters(0, 1) + Tell.persons("plain 1") + Tell.writs(0, 60, 0, 59);
        OtterWrits last = Check.told(pair + "wets level+(date=59)*(level=0);");
        Check.same("on the day 60 itself", last.intime(0), 1);
        Check.same("a day over", last.intime(1), 0);
        OtterWrits served = Check.told(Tell.places(1) + Tell.otters(0, 1) + Tell.persons("plain 0") + Tell.writs(0, 60));
        served.take(0, 0);
        served.serve(0);
        Check.same("SERVED", served.intime(0), 0);
    }

    private static void share(OtterWrits x, int many, int days, int... which) {
        Check.same("how many", x.share(-1), many);
        Check.same("the DAYS", x.share(-2), days);
        for (int o = 0; o < which.length; o++) {
            Check.same("of the OTTER " + o, x.share(o), which[o]);
        }
        Check.same("no more OTTERS", x.share(which.length), -3);
    }

    private static void shareTheMost() {
        String one = Tell.places(1) + Tell.persons("plain 0");
        share(new OtterWrits(), 0, 0);
        share(Check.told(one + Tell.writs(0, 0)), 0, 0);
        share(Check.told(one + Tell.otters(0, 1, 0, 1, 0, 1)), 0, 0, -1, -1, -1);
        share(Check.told(one + Tell.otters(0, 1, 0, 1) + Tell.writs(0, 0)), 1, 0, 0, -1);
        share(Check.told(one + Tell.otters(0, 1) + Tell.writs(0, 0, 0, 0, 0, 0)), 1, 0, 0);
        share(Check.told(one + Tell.otters(0, 1, 0, 1, 0, 1) + Tell.writs(0, 0, 0, 0, 0, 0, 0, 0, 0, 0, 0, 0)), 3, 0, 0, 1, 2);
        OtterWrits taken = Check.told(one + Tell.otters(0, 1, 0, 1, 0, 1) + Tell.writs(0, 0, 0, 0, 0, 0));
        taken.take(0, 2);
        taken.take(0, 1);
        share(taken, 2, 0, 1, 0, -1);
        OtterWrits far = Check.told(Tell.places(1, 1, 1, 1, 1, 1) + Tell.streams(0, 1, 1, 2, 2, 3, 3, 4) + Tell.persons("plain 0", "plain 4", "plain 5")
                + Tell.otters(0, 1, 5, 3) + Tell.writs(2, 0, 1, 0, 0, 0));
        share(far, 1, 0, 2, -1);
        OtterWrits more = Check.told(Tell.places(1, 1, 1, 1, 1) + Tell.streams(0, 1, 1, 2, 2, 3, 3, 4) + Tell.persons("plain 0", "plain 4")
                + Tell.otters(0, 1, 4, 1) + Tell.writs(0, 0, 1, 0));
        share(more, 2, 6, 1, 0);
    }

    private static void shareTheLeastDays() {
        OtterWrits x = Check.told(Tell.places(1, 1, 1) + Tell.streams(0, 1, 1, 2) + Tell.persons("plain 2", "plain 0") + Tell.otters(0, 1, 0, 2)
                + Tell.writs(0, 0, 1, 0));
        share(x, 2, 0, 1, 0);
        OtterWrits y = Check.told(Tell.places(1, 1, 1) + Tell.streams(0, 1, 1, 2) + Tell.persons("plain 2", "plain 1") + Tell.otters(0, 1, 0, 1)
                + Tell.writs(0, 0, 1, 0, 1, 9));
        share(y, 2, 0, 1, 2);
        OtterWrits z = Check.told(Tell.places(1, 1, 1, 1) + Tell.streams(0, 1, 1, 2, 2, 3) + Tell.persons("plain 3", "plain 2") + Tell.otters(0, 1, 0, 1)
                + Tell.writs(0, 0, 1, 0));
        share(z, 2, 3, 0, 1);
        OtterWrits together = Check.told(Tell.places(1, 1, 1, 1) + Tell.streams(0, 1, 1, 2, 2, 3) + Tell.persons("plain 3", "plain 1") + Tell.otters(0, 1, 0, 3)
                + Tell.writs(0, 0, 1, 0));
        share(together, 2, 0, 1, 0);
    }

    private static void shareTheFirstRow() {
        String one = Tell.places(1) + Tell.persons("plain 0");
        OtterWrits x = Check.told(one + Tell.otters(0, 1, 0, 1, 0, 1) + Tell.writs(0, 0, 0, 0));
        share(x, 2, 0, 0, 1, -1);
        OtterWrits y = Check.told(one + Tell.otters(0, 1, 0, 1, 0, 1) + Tell.writs(0, 0));
        share(y, 1, 0, 0, -1, -1);
        y.take(2, 0);
        share(y, 1, 0, -1, -1, 0);
        OtterWrits z = Check.told(one + Tell.otters(0, 1, 0, 1, 0, 1) + Tell.writs(0, 0, 0, 0, 0, 0, 0, 0));
        z.take(1, 0);
        share(z, 3, 0, 1, 0, 2);
        z.take(1, 1);
        share(z, 3, 0, 2, 0, 3);
        z.take(0, 3);
        share(z, 3, 0, 3, 0, 2);
        OtterWrits last = Check.told(Tell.places(1, 1) + Tell.persons("plain 0") + Tell.otters(1, 1, 0, 1) + Tell.writs(0, 0, 0, 0));
        share(last, 1, 0, -1, 0);
    }

    private static void shareAnswers() {
        OtterWrits x = Check.told(Tell.places(1, 1, 1) + Tell.streams(0, 1, 1, 2) + Tell.persons("plain 2") + Tell.otters(0, 1, 2, 1) + Tell.writs(0, 0, 0, 0));
        share(x, 2, 4, 0, 1);
        x.take(0, 1);
        share(x, 2, 4, 1, 0);
        x.day();
        share(x, 2, 4, 1, 0);
        x.swim(0, 1);
        share(x, 2, 4, 1, 0);
        x.day();
        share(x, 2, 3, 1, 0);
        Check.same("no such", x.share(-3), -3);
        Check.same("no such", x.share(Integer.MIN_VALUE), -3);
        Check.same("no such", x.share(Integer.MAX_VALUE), -3);
    }
}
