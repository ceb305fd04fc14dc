/** Terms, part 2: taking, swimming, serving, days, undone; late writs; sessions judged. */
final class HandEdges {
    private static final String[] KINDS = {"plain", "wary", "bather", "dewy"};

    private HandEdges() {
    }

    static void all() {
        Edge.in("Terms 2");
        Edge.of("A PLACE is WET if its water is 1 or more.", HandEdges::wet);
        Edge.of("A WRIT is at the ASSIZE, with an OTTER, or SERVED.", HandEdges::whereAWritIs);
        Edge.of("TAKE: an OTTER that is in the ASSIZE and has fewer than two, a WRIT that is there: it has it.", HandEdges::taking);
        Edge.of("SWIM: an OTTER to a PLACE by a stream, both WET", HandEdges::swimmingWhere);
        Edge.of("if it has swum fewer times today than its pace tells.", HandEdges::swimmingHowOften);
        Edge.of("SERVE: a WRIT that is with an OTTER in the PLACE where the PERSON is for whom it is", HandEdges::servingWhere);
        Edge.of("the PLACE has 1 water or more, 3 or more if that one is wary, whatever it has if dewy: it is SERVED.",
                HandEdges::servingByWater);
        Edge.of("DAY: each PLACE's water is what the E of wets tells (0 to 9), by what it was, all at once", HandEdges::water);
        Edge.of("then each wary PERSON goes to the PLACE that has the least water, each bather to the one that has the most, of the one where "
                + "they are and those to which a stream leads", HandEdges::going);
        Edge.of("of equal ones they stay, else the first", HandEdges::goingOfEqualOnes);
        Edge.of("no OTTER has swum; it is the next day.", HandEdges::theNextDay);
        Edge.of("UNDO: all of these", HandEdges::undoing);
        Edge.of("the last 16, one by one.", HandEdges::undoingSixteen);
        Edge.of("A WRIT is LATE if it is not SERVED and its day is over.", HandEdges::late);
        Edge.of("JUDGED: the SESSION from the beginning", HandEdges::judgedFromTheBeginning);
        Edge.of("(a line that can't be is left out; a day always can)", HandEdges::judgedLeavesOut);
        Edge.of("the first line (from 0) that can't be; the first one by which a WRIT is SERVED; how many are at last.", HandEdges::judgedLines);
    }

    private static void wet() {
        for (int water = 0; water <= 9; water++) {
            OtterWrits x = Check.told("place pa water " + water + ";wets level;");
            int due = water >= 1 ? 1 : 0;
            Check.same("water " + water, x.count(7), due);
            Check.same("its day", x.day(), due);
            Check.same("its pool", x.pool(0), due);
        }
    }

    private static void whereAWritIs() {
        OtterWrits x = Check.told(Tell.places(1) + Tell.persons("plain 0") + Tell.otters(0, 1, 0, 1, 0, 1) + Tell.writs(0, 1, 0, 1, 0, 1));
        for (int o = 0; o < 3; o++) {
            Check.same("at the ASSIZE", x.writ(o, 2), -1);
            Check.yes("taken", x.take(o, o));
            Check.same("with an OTTER", x.writ(o, 2), o);
            Check.same("its bit", x.otter(o, 3), 1 << o);
        }
        for (int w = 0; w < 3; w++) {
            Check.same("by its OTTER", x.serve(w), w);
            Check.same("SERVED", x.writ(w, 2), 3);
            Check.same("with none", x.otter(w, 3), 0);
            Check.same("served ones", x.count(8), (1 << w + 1) - 1);
        }
        for (int w = 0; w < 3; w++) {
            Check.refused("a served one is taken", x, () -> x.take(0, 0));
            Check.no("it can't be served again", x.may(w));
        }
    }

    private static OtterWrits takers() {
        return Check.told(Tell.places(0, 1) + Tell.streams(0, 1) + Tell.persons("dewy 0", "plain 1") + Tell.otters(0, 1, 0, 2, 1, 3)
                + Tell.writs(0, 0, 0, 1, 1, 2, 1, 60, 0, 0, 0, 0));
    }

    private static void taking() {
        OtterWrits x = takers();
        Check.refused("an OTTER that is elsewhere", x, () -> x.take(2, 0));
        Check.yes("none yet, in a dry ASSIZE", x.take(0, 0));
        OtterWrits y = takers();
        y.take(0, 0);
        Check.refused("a WRIT that it has", y, () -> y.take(0, 0));
        Check.refused("a WRIT that another one has", y, () -> y.take(1, 0));
        Check.yes("one yet", y.take(0, 5));
        Check.same("two", y.otter(0, 3), 33);
        OtterWrits z = takers();
        z.take(0, 0);
        z.take(0, 5);
        for (int w = 1; w < 5; w++) {
            Check.no("two already: " + w, z.take(0, w));
        }
        Check.refused("a third", z, () -> z.take(0, 1));
        Check.yes("by another one, who has none", z.take(1, 1));
        Check.yes("and one", z.take(1, 2));
        Check.no("and two", z.take(1, 3));
        Check.same("one is served", z.serve(0), 0);
        Check.refused("the served one", z, () -> z.take(0, 0));
        Check.yes("so it has fewer than two", z.take(0, 3));
        OtterWrits late = takers();
        late.day();
        late.day();
        Check.same("late ones", late.late() & 1, 1);
        Check.yes("a late one can be taken", late.take(0, 0));
    }

    private static void swimmingWhere() {
        for (int from = 0; from <= 2; from++) {
            for (int to = 0; to <= 2; to++) {
                OtterWrits x = Check.told(Tell.places(from, to, 5, 5) + Tell.streams(0, 1, 1, 2) + Tell.otters(0, 3));
                boolean can = from >= 1 && to >= 1;
                Check.same("can, from " + from + " to " + to, x.can(0), can ? 2 : 0);
                if (can) {
                    Check.same("swim from " + from + " to " + to, x.swim(0, 1), 1);
                    Check.same("it is there", x.otter(0, 1), 1);
                } else {
                    Check.stays("swim from " + from + " to " + to, x, () -> x.swim(0, 1), -1);
                }
            }
        }
        OtterWrits x = Check.told(Tell.places(5, 5, 5, 5) + Tell.streams(1, 0, 1, 2) + Tell.otters(0, 3));
        Check.stays("to where it is", x, () -> x.swim(0, 0), -1);
        Check.stays("over two streams at once", x, () -> x.swim(0, 2), -1);
        Check.stays("to where no stream leads", x, () -> x.swim(0, 3), -1);
        Check.same("against how the stream is told", x.swim(0, 1), 1);
        Check.same("as it is told", x.swim(0, 2), 2);
        Check.same("back", x.swim(0, 1), 3);
    }

    private static void swimmingHowOften() {
        for (int pace = 1; pace <= 3; pace++) {
            OtterWrits x = Check.told(Tell.places(5, 5) + Tell.streams(0, 1) + Tell.otters(0, pace, 0, 3));
            for (int day = 0; day < 2; day++) {
                for (int i = 1; i <= pace; i++) {
                    int to = 1 - x.otter(0, 1);
                    Check.same("can, pace " + pace, x.can(0), 1 << to);
                    Check.same("swim " + i + " of " + pace, x.swim(0, to), i);
                }
                int to = 1 - x.otter(0, 1);
                Check.same("can no more", x.can(0), 0);
                Check.stays("one more", x, () -> x.swim(0, to), -1);
                Check.same("another one has not swum", x.otter(1, 2), 0);
                x.day();
            }
        }
    }

    private static OtterWrits servers() {
        return Check.told(Tell.places(5, 5, 5) + Tell.streams(0, 1, 1, 2) + Tell.persons("plain 1", "plain 0") + Tell.otters(0, 3, 0, 3)
                + Tell.writs(0, 0, 1, 9));
    }

    private static void servingWhere() {
        OtterWrits x = servers();
        Check.stays("at the ASSIZE, where its PERSON is", x, () -> x.serve(1), -1);
        x.take(0, 0);
        Check.stays("the OTTER is elsewhere", x, () -> x.serve(0), -1);
        x.swim(1, 1);
        Check.stays("another OTTER is there", x, () -> x.serve(0), -1);
        OtterWrits y = servers();
        y.take(0, 0);
        y.take(1, 1);
        y.swim(0, 1);
        Check.same("it is there", y.serve(0), 0);
        Check.stays("again", y, () -> y.serve(0), -1);
        Check.same("where it was taken", y.serve(1), 1);
        OtterWrits z = servers();
        z.take(0, 0);
        z.swim(0, 1);
        z.swim(0, 2);
        Check.stays("gone by", z, () -> z.serve(0), -1);
        z.swim(0, 1);
        Check.same("it has swum all it can", z.otter(0, 2), 3);
        Check.same("that does not matter", z.serve(0), 0);
        OtterWrits late = servers();
        late.take(1, 0);
        late.day();
        late.swim(1, 1);
        Check.same("it is late", late.late(), 1);
        Check.same("that does not matter", late.serve(0), 1);
    }

    private static void servingByWater() {
        int[] least = {1, 3, 1, 0};
        for (int kind = 0; kind < 4; kind++) {
            for (int water = 0; water <= 9; water++) {
                OtterWrits x = Check.told(Tell.places(water) + Tell.persons(KINDS[kind] + " 0") + Tell.otters(0, 1) + Tell.writs(0, 1));
                x.take(0, 0);
                String call = KINDS[kind] + " by " + water;
                if (water >= least[kind]) {
                    Check.yes("may: " + call, x.may(0));
                    Check.same(call, x.serve(0), 0);
                    Check.same("SERVED: " + call, x.writ(0, 2), 3);
                } else {
                    Check.no("may: " + call, x.may(0));
                    Check.stays(call, x, () -> x.serve(0), -1);
                }
            }
        }
    }

    private static void water() {
        String[] laws = {"0-1", "0", "1", "9", "10", "9999", "0-9999", "level-1", "level+1", "9-level", "level*2"};
        int[][] due = {{0, 0, 0}, {0, 0, 0}, {1, 1, 1}, {9, 9, 9}, {9, 9, 9}, {9, 9, 9}, {0, 0, 0}, {0, 3, 8}, {1, 5, 9}, {9, 5, 0}, {0, 8, 9}};
        for (int i = 0; i < laws.length; i++) {
            OtterWrits x = Check.told(Tell.places(0, 4, 9) + "wets " + laws[i] + ";");
            x.day();
            for (int p = 0; p < 3; p++) {
                Check.same("wets " + laws[i] + " of " + p, x.place(p, 0), due[i][p]);
            }
        }
        OtterWrits x = Check.told(Tell.places(2) + "wets level*level-1;");
        int[] days = {3, 8, 9, 9};
        for (int i = 0; i < 4; i++) {
            x.day();
            Check.same("what it was is cut already, day " + (i + 1), x.place(0, 0), days[i]);
        }
        OtterWrits y = Check.told(Tell.places(1) + "wets level-5+(date=1)*7;");
        y.day();
        Check.same("not below 0", y.place(0, 0), 0);
        y.day();
        Check.same("from 0 on", y.place(0, 0), 2);
        OtterWrits z = Check.told(Tell.places(3, 3) + Tell.persons("bather 0") + "rain 9;");
        z.day();
        Check.same("a PERSON does not matter", z.place(0, 0) * 10 + z.place(1, 0), 99);
    }

    /** Four places round pa, which is numbered 2: their water behind a day is as it is ahead. */
    private static OtterWrits star(int zero, int one, int here, int three, int far, String kind) {
        return Check.told(Tell.places(zero, one, here, three, far) + Tell.streams(2, 3, 1, 2, 2, 0, 0, 4) + Tell.persons(kind + " 2") + "wets level;");
    }

    private static int gone(int zero, int one, int here, int three, int far, String kind) {
        OtterWrits x = star(zero, one, here, three, far, kind);
        x.day();
        return x.person(0, 1);
    }

    private static void going() {
        Check.same("wary: to the least", gone(3, 1, 5, 2, 0, "wary"), 1);
        Check.same("wary: not where no stream leads", gone(3, 4, 2, 5, 0, "wary"), 2);
        Check.same("wary: less by one", gone(9, 9, 9, 8, 0, "wary"), 3);
        Check.same("wary: to a dry one from a dry one it stays", gone(0, 1, 0, 0, 0, "wary"), 2);
        Check.same("bather: to the most", gone(3, 1, 2, 4, 9, "bather"), 3);
        Check.same("bather: not where no stream leads", gone(3, 1, 4, 2, 9, "bather"), 2);
        Check.same("bather: more by one", gone(1, 0, 0, 0, 9, "bather"), 0);
        Check.same("plain stays", gone(0, 9, 5, 9, 0, "plain"), 2);
        Check.same("dewy stays", gone(0, 9, 5, 9, 0, "dewy"), 2);
        OtterWrits x = star(3, 1, 5, 2, 0, "wary");
        x.day();
        x.day();
        Check.same("wary: one stream a day", x.person(0, 1), 1);
        OtterWrits y = star(7, 1, 5, 2, 9, "bather");
        y.day();
        Check.same("bather: one stream a day", y.person(0, 1), 0);
        y.day();
        Check.same("bather: and on", y.person(0, 1), 4);
        OtterWrits then = Check.told(Tell.places(9, 0) + Tell.streams(0, 1) + Tell.persons("bather 0", "wary 0") + "wets 9-level;");
        then.day();
        Check.same("bather: by the water that is there then", then.person(0, 1), 1);
        Check.same("wary: by the water that is there then", then.person(1, 1), 0);
        OtterWrits two = Check.told(Tell.places(9, 5) + Tell.streams(0, 1) + Tell.persons("wary 0", "wary 0", "bather 1", "bather 1", "wary 1") + "wets level;");
        two.day();
        Check.same("each of them", two.place(0, 2) * 100 + two.place(1, 2), 12 * 100 + 19);
    }

    private static void goingOfEqualOnes() {
        Check.same("wary: all alike", gone(4, 4, 4, 4, 4, "wary"), 2);
        Check.same("bather: all alike", gone(4, 4, 4, 4, 4, "bather"), 2);
        Check.same("wary: as little here", gone(3, 2, 2, 2, 0, "wary"), 2);
        Check.same("bather: as much here", gone(6, 7, 7, 7, 9, "bather"), 2);
        Check.same("wary: the first of three", gone(3, 3, 4, 3, 0, "wary"), 0);
        Check.same("wary: the first of two", gone(4, 3, 5, 3, 0, "wary"), 1);
        Check.same("bather: the first of three", gone(5, 5, 4, 5, 9, "bather"), 0);
        Check.same("bather: the first of two", gone(5, 6, 4, 6, 9, "bather"), 1);
        Check.same("wary: all are dry", gone(0, 0, 0, 0, 0, "wary"), 2);
        Check.same("bather: all are full", gone(9, 9, 9, 9, 9, "bather"), 2);
    }

    private static void theNextDay() {
        OtterWrits x = Check.told(Tell.places(5, 5) + Tell.streams(0, 1) + Tell.otters(0, 1, 0, 2, 1, 3) + Tell.persons("plain 0") + Tell.writs(0, 1));
        x.take(0, 0);
        x.swim(0, 1);
        x.swim(1, 1);
        x.swim(1, 0);
        x.swim(2, 0);
        Check.same("the day 0", x.count(5), 0);
        x.day();
        for (int o = 0; o < 3; o++) {
            Check.same("has not swum: " + o, x.otter(o, 2), 0);
        }
        Check.same("where they are: stays", x.place(0, 3) * 10 + x.place(1, 3), 6 * 10 + 1);
        Check.same("what they have: stays", x.otter(0, 3), 1);
        Check.same("the day 1", x.count(5), 1);
        for (int d = 2; d <= 200; d++) {
            x.day();
        }
        Check.same("the day 200", x.count(5), 200);
    }

    private static OtterWrits undoers() {
        return Check.told(Tell.places(5, 5, 0) + Tell.streams(0, 1, 1, 2) + Tell.persons("plain 1", "wary 1", "bather 2") + Tell.otters(0, 2)
                + Tell.writs(0, 0, 1, 3) + "rain 0 9;");
    }

    private static void undoing() {
        OtterWrits x = undoers();
        Check.session(x, "day;take oa wb;");
        x.see(0, 3, true);
        String[] ahead = new String[4];
        for (int i = 0; i < 4; i++) {
            ahead[i] = Check.all(x);
            switch (i) {
                case 0:
                    Check.yes("take", x.take(0, 0));
                    break;
                case 1:
                    Check.same("swim", x.swim(0, 1), 1);
                    break;
                case 2:
                    Check.same("serve", x.serve(0), 0);
                    break;
                default:
                    Check.same("day", x.day(), 3);
            }
            Check.same("what can be undone", x.count(11), i + 1);
        }
        for (int i = 3; i >= 0; i--) {
            Check.yes("undo " + i, x.undo());
            Check.equal("as ahead of " + i, Check.all(x), ahead[i]);
        }
        Check.no("no more", x.undo());
        Check.same("none", x.count(11), 0);
        OtterWrits y = undoers();
        Check.same("what can't be is not there to be undone", y.swim(0, 2) + y.serve(0) + (y.take(0, 2) ? 1 : 0), -2);
        Check.refused("nothing was done", y, y::undo);
        Check.session(y, "day;");
        y.see(0, 1, true);
        y.mark(0, false);
        Check.refused("sessions, what is SEEN, MARKS are none of these", y, y::undo);
    }

    private static void undoingSixteen() {
        OtterWrits x = undoers();
        for (int i = 1; i <= 15; i++) {
            x.day();
        }
        Check.same("15", x.count(11), 15);
        x.day();
        Check.same("16", x.count(11), 16);
        x.take(0, 0);
        Check.same("a 17th: the last 16", x.count(11), 16);
        Check.yes("the taking", x.undo());
        Check.same("it is at the ASSIZE", x.writ(0, 2), -1);
        Check.same("the day 16", x.count(5), 16);
        for (int d = 15; d >= 1; d--) {
            Check.yes("a day", x.undo());
            Check.same("the day", x.count(5), d);
            Check.same("can be undone", x.count(11), d - 1);
        }
        Check.refused("the first day can't be undone", x, x::undo);
        x.day();
        Check.same("one", x.count(11), 1);
        Check.yes("it can be undone", x.undo());
        Check.no("no more", x.undo());
        OtterWrits round = Check.told(Tell.places(5));
        for (int i = 0; i < 50; i++) {
            round.day();
        }
        for (int i = 0; i < 5; i++) {
            round.undo();
        }
        for (int i = 0; i < 7; i++) {
            round.day();
        }
        Check.same("five undone, seven done: full again", round.count(11), 16);
        int undone = 0;
        for (int i = 0; i < 20; i++) {
            undone += round.undo() ? 1 : 0;
        }
        Check.same("sixteen", undone, 16);
        Check.same("the day", round.count(5), 36);
    }

    private static void late() {
        OtterWrits x = Check.told(Tell.places(5) + Tell.persons("plain 0") + Tell.otters(0, 1) + Tell.writs(0, 0, 0, 1, 0, 60, 0, 59, 0, 0, 0, 1));
        Check.same("on the day 0", x.late(), 0);
        x.take(0, 4);
        x.serve(4);
        x.take(0, 0);
        x.day();
        Check.same("day 0 is over; a served one is not late, one with an OTTER is", x.late(), 1);
        x.day();
        Check.same("day 1 is over", x.late(), 35);
        x.serve(0);
        Check.same("served behind its day", x.late(), 34);
        for (int d = 3; d <= 59; d++) {
            x.day();
        }
        Check.same("on the day 59", x.late(), 34);
        x.day();
        Check.same("on the day 60", x.late(), 42);
        x.day();
        Check.same("on the day 61", x.late(), 46);
    }

    private static final String BENCH = Tell.places(5, 5, 1) + Tell.streams(0, 1, 1, 2) + Tell.persons("plain 1", "dewy 0", "wary 2")
            + Tell.otters(0, 1, 0, 2) + Tell.writs(0, 0, 1, 0, 2, 0) + "wets level;";

    private static OtterWrits judge(String session) {
        OtterWrits x = Check.told(BENCH);
        Check.same("session " + session, Check.session(x, session), 0);
        return x;
    }

    private static void judgedFromTheBeginning() {
        OtterWrits x = judge("take oa wa;swim oa pb;serve wa;");
        x.take(1, 0);
        x.swim(1, 1);
        x.day();
        Check.same("what was done by hand does not matter", x.judged(0), -1);
        Check.same("nor that it is another day", x.judged(2), 1);
        Check.stays("nothing is done by it", x, () -> x.judged(1), 2);
        x.serve(0);
        Check.same("nor that it is served", x.judged(2), 1);
    }

    private static void judgedLeavesOut() {
        OtterWrits x = judge("swim oa pc;take oa wa;serve wa;swim oa pb;swim oa pa;serve wa;");
        Check.same("the first is left out", x.judged(0), 0);
        Check.same("the sixth serves", x.judged(1), 5);
        Check.same("one", x.judged(2), 1);
        OtterWrits days = judge(Tell.times("day;", 40));
        Check.same("days always can", days.judged(0), -1);
        OtterWrits none = new OtterWrits();
        Check.session(none, "day;day;");
        Check.same("also without a county", none.judged(0), -1);
        OtterWrits paces = judge("swim oa pb;swim oa pc;day;swim oa pc;");
        Check.same("only one a day by its pace", paces.judged(0), 1);
        OtterWrits more = judge("swim oa pb;day;swim oa pc;day;swim oa pb;");
        Check.same("one on each day", more.judged(0), -1);
    }

    private static void judgedLines() {
        OtterWrits none = judge("");
        Check.same("no line that can't be", none.judged(0), -1);
        Check.same("no line that serves", none.judged(1), -1);
        Check.same("none", none.judged(2), 0);
        OtterWrits all = judge("take oa wb;serve wb;take oa wa;take ob wc;swim oa pb;serve wa;serve wa;serve wb;day;swim ob pb;swim ob pc;serve wc;");
        Check.same("the first that can't be", all.judged(0), 6);
        Check.same("the first that serves", all.judged(1), 1);
        Check.same("how many (wary stays dry)", all.judged(2), 2);
        OtterWrits first = judge("serve wa;take oa wb;serve wb;");
        Check.same("line 0", first.judged(0), 0);
        Check.same("line 2", first.judged(1), 2);
        OtterWrits last = judge(Tell.times("day;", 38) + "take oa wb;serve wb;");
        Check.same("line 39 serves", last.judged(1), 39);
        OtterWrits lastNot = judge(Tell.times("day;", 39) + "serve wb;");
        Check.same("line 39 can't be", lastNot.judged(0), 39);
    }
}
