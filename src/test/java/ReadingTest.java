/** Promises 2, 3, 4: the tape, the tokens, counties, the law of what wets, sessions, and their faults. */
public final class ReadingTest {
    private static final String PAIR = "place a water 1; place b water 2; ";
    private static final String FULL = PAIR + "person p plain in a; otter o in a pace 1; writ w for p by 3; ";

    public static void main(String[] args) {
        tape();
        tokens();
        forms();
        names();
        numbers();
        manyFaults();
        nesting();
        laws();
        sessions();
        aFaultLeavesAll();
        aCountyStartsAnew();
        Check.end();
    }

    private static void tape() {
        OtterWrits x = new OtterWrits();
        Check.same("feed of nothing", x.feed(0, 0, 0), 0);
        Check.same("feed of bytes that are no signs", x.feed(0x09_0b_1f_7f_80_ff_0d_00L, -1, 0), 0);
        Check.same("feed of 10, 32, 126", x.feed(0x0aL, 0x2000L, 0x7e00000000000000L), 3);
        Check.same("county: the highest byte first", x.county(), 1 + 16 * 2);
        Check.same("the tape is empty behind it", x.count(12), 0);
        for (int i = 0; i < 41; i++) {
            x.feed(0x2020202020202020L, 0x2020202020202020L, 0x2020202020202020L);
        }
        Check.same("41 feeds", x.count(12), 984);
        Check.same("42nd feed", x.feed(0x2020202020202020L, 0x2020202020202020L, 0x2020202020202020L), 1000);
        Check.same("43rd feed", x.feed(0x6161616161616161L, 0, 0), 1000);
        Check.same("a county of blanks", x.county(), 0);
        Check.same("empty county", x.county(), 0);
        Check.same("empty session", x.session(), 0);
    }

    private static void tokens() {
        Check.told("place a water1;place b water 0002 ;\n stream\na b;rain 1 2 3;wets level+1and falls<2or 3;");
        Check.told("place abcdefgh water 9;");
        Check.countyFault("place ^abcdefghi water 9;", 1);
        Check.countyFault("place a^1 water 9;", 1);
        Check.countyFault("place a water ^12345;", 1);
        Check.countyFault("place a water ^-1;", 1);
        Check.countyFault("place ^A water 1;", 1);
        Check.countyFault("place a water 1^:", 1);
        Check.countyFault("^placea water 1;", 1);
        Check.countyFault("place a water 1 ^, ;", 1);
        Check.countyFault("wets level ^> 2;", 1);
        Check.countyFault("^#", 1);
    }

    private static void forms() {
        Check.countyFault("^;", 1);
        Check.countyFault("^a", 1);
        Check.countyFault("^day;", 1);
        Check.countyFault("^water", 1);
        Check.countyFault("^1", 1);
        Check.countyFault("place^", 1);
        Check.countyFault("place a^", 1);
        Check.countyFault("place a water^", 1);
        Check.countyFault("place a water 1^", 1);
        Check.countyFault("place a water 1  ^", 1);
        Check.countyFault("place ^place water 1;", 1);
        Check.countyFault("place ^7 water 1;", 1);
        Check.countyFault("place a ^pace 1;", 1);
        Check.countyFault("place a water ^b;", 1);
        Check.countyFault("place a water 1 ^2;", 1);
        Check.countyFault(PAIR + "stream ^in b;", 1);
        Check.countyFault(PAIR + "stream a ^;", 1);
        Check.countyFault(PAIR + "stream a b ^a;", 1);
        Check.countyFault(PAIR + "person p ^in a;", 1);
        Check.countyFault(PAIR + "person p ^p in a;", 1);
        Check.countyFault(PAIR + "person p plain ^by a;", 1);
        Check.countyFault(PAIR + "person p plain in ^wary;", 1);
        Check.countyFault(PAIR + "otter o ^a", 1);
        Check.countyFault(PAIR + "otter o in a ^;", 1);
        Check.countyFault(PAIR + "otter o in a pace ^;", 1);
        Check.countyFault(PAIR + "person p plain in a; writ w ^by p", 1);
        Check.countyFault(PAIR + "person p plain in a; writ w for p ^in", 1);
        Check.countyFault("rain ^;", 1);
        Check.countyFault("rain 1 ^a", 1);
        Check.countyFault("rain 1 2^", 1);
        Check.countyFault("wets ^;", 1);
        Check.countyFault("wets 1 ^1;", 1);
        Check.countyFault("wets (level^;", 1);
        Check.countyFault("wets level^);", 1);
        Check.countyFault("wets level < 1 ^< 2;", 1);
        Check.countyFault("wets level = 1 ^= 2;", 1);
        Check.countyFault("wets ^- 1;", 1);
        Check.countyFault("wets 1 + ^* 2;", 1);
        Check.countyFault("wets 1 and ^or 2;", 1);
        Check.countyFault("wets not ^;", 1);
        Check.countyFault("wets level + ^water;", 1);
        Check.countyFault("wets ^levels;", 1);
        Check.countyFault("wets (^);", 1);
        Check.countyFault("wets level^", 1);
    }

    private static void names() {
        Check.told("place level water 1; place falls water 2; stream level falls; wets level; person ways dewy in level;");
        Check.told("place done water 1; place places water 1;");
        String[] kept = {"place", "water", "stream", "person", "in", "otter", "pace", "writ", "for", "by", "rain", "wets",
            "day", "take", "swim", "serve", "plain", "wary", "bather", "dewy", "not", "and", "or"};
        for (String word : kept) {
            Check.countyFault("place ^" + word + " water 1;", 1);
        }
        Check.countyFault("stream ^a b;", 2);
        Check.countyFault(PAIR + "stream a ^c;", 2);
        Check.countyFault(PAIR + "person p plain in ^p;", 2);
        Check.countyFault(PAIR + "otter o in ^o pace 1;", 2);
        Check.countyFault(PAIR + "writ w for ^a by 1;", 2);
        Check.countyFault(FULL + "stream a ^p;", 2);
        Check.countyFault(FULL + "person q plain in ^o;", 2);
        Check.countyFault(PAIR + "place ^a water 1;", 3);
        Check.countyFault(FULL + "place ^p water 1;", 3);
        Check.countyFault(FULL + "person ^o plain in a;", 3);
        Check.countyFault(FULL + "otter ^w in a pace 1;", 3);
        Check.countyFault(FULL + "writ ^b for p by 1;", 3);
        Check.countyFault(PAIR + "stream a ^a;", 3);
        Check.countyFault(PAIR + "stream a b; stream a ^b;", 3);
        Check.countyFault(PAIR + "stream a b; stream b ^a;", 3);
        Check.countyFault("rain 1; ^rain 1;", 3);
        Check.countyFault("wets 1; ^wets 1;", 3);
    }

    private static void numbers() {
        Check.countyFault("place a water ^10;", 4);
        Check.countyFault("place a water ^9999", 4);
        Check.countyFault(PAIR + "otter o in a pace ^0;", 4);
        Check.countyFault(PAIR + "otter o in a pace ^4;", 4);
        Check.countyFault(PAIR + "person p plain in a; writ w for p by ^61;", 4);
        Check.told(PAIR + "person p plain in a; writ w for p by 60; writ v for p by 0;");
        Check.countyFault("rain ^10;", 4);
        Check.countyFault("rain 1 ^10;", 4);
        Check.countyFault("rain 1 2 3 4 5 6 7 8 9 0 1 2 ^10;", 4);
        Check.told("wets 9999 + 0;");
    }

    private static void manyFaults() {
        String seven = "";
        for (int i = 0; i < 7; i++) {
            seven += "place " + (char) ('a' + i) + " water 1;";
        }
        Check.told(seven);
        Check.countyFault(seven + "^place", 5);
        String[] ends = {"a b", "a c", "a d", "a e", "a f", "a g", "b c", "b d", "b e", "b f"};
        String ten = seven;
        for (String end : ends) {
            ten += "stream " + end + ";";
        }
        Check.told(ten);
        Check.countyFault(ten + "^stream a b;", 5);
        String five = "place a water 1;";
        for (int i = 0; i < 5; i++) {
            five += "person p" + (char) ('a' + i) + " plain in a;";
        }
        Check.told(five);
        Check.countyFault(five + "^person 1", 5);
        String three = five + "otter oa in a pace 1; otter ob in a pace 2; otter oc in a pace 3;";
        Check.told(three);
        Check.countyFault(three + "^otter oa in a pace 1;", 5);
        String six = three;
        for (int i = 0; i < 6; i++) {
            six += "writ w" + (char) ('a' + i) + " for pa by 1;";
        }
        Check.told(six);
        Check.countyFault(six + "^writ wa", 5);
        Check.told("rain 1 2 3 4 5 6 7 8 9 0 1 2;");
        Check.countyFault("rain 1 2 3 4 5 6 7 8 9 0 1 2 ^3;", 5);
        Check.countyFault("rain 1 2 3 4 5 6 7 8 9 0 1 2 ^a;", 1);
    }

    private static void nesting() {
        Check.told("wets ((((level))));");
        Check.countyFault("wets (((((^level)))));", 5);
        Check.countyFault("wets (((((^(level))))));", 5);
        Check.countyFault("wets (((((^not level)))));", 5);
        Check.countyFault("wets (((((^;", 1);
        Check.countyFault("wets (((((^foo", 1);
        Check.countyFault("wets (((((^)))))", 1);
        Check.countyFault("wets (((((^", 1);
        Check.told("wets not not not not level;");
        Check.countyFault("wets not not not not not ^level;", 5);
        Check.countyFault("wets not not not not not ^not", 5);
        Check.countyFault("wets not (not (not ^;", 1);
        Check.countyFault("wets not (not (not ^2));", 5);
        Check.told("wets ((level)+(((1))))*((((2))));");
        Check.told("wets not 1 + not 2 + not 3 + not 4 + not 5 + not 6 + not 7;");
    }

    /** A law is held against the water that it makes of 4, by a rain of 3, with 1 stream, on the day 0. */
    private static void law(String law, int due) {
        OtterWrits x = Check.told("place a water 4; place b water 0; stream a b; rain 3; wets " + law + ";");
        Check.same("wets " + law, x.later(0, 1), due);
    }

    private static void laws() {
        OtterWrits plain = Check.told("place a water 4; rain 3;");
        Check.same("without wets", plain.later(0, 1), 6);
        Check.same("without rain", Check.told("place a water 4;").later(0, 1), 4);
        law("level", 4);
        law("falls", 3);
        law("ways", 1);
        law("date", 0);
        law("date + 5", 5);
        law("100", 9);
        law("0 - 1", 0);
        law("9 - 3 - 2", 4);
        law("1 + 2 * 3", 7);
        law("(1 + 2) * 3", 9);
        law("9 - 2 * 3 + 1", 4);
        law("not 0 + 1", 2);
        law("not 3 * 5", 0);
        law("not not 7", 1);
        law("not (1 < 0) * 5", 5);
        law("1 < 2", 1);
        law("2 < 2", 0);
        law("3 < 2", 0);
        law("2 = 2", 1);
        law("2 = 1 + 1 + 1", 0);
        law("5 and 3", 1);
        law("5 and 0", 0);
        law("5 or 0", 1);
        law("0 or 0", 0);
        law("1 or 1 and 0", 0);
        law("0 and 0 or 1", 1);
        law("1 or 0 = 1", 1);
        law("(level = 4) * 6 + (falls = 3) * 2 + (ways = 1)", 9);
        law("0 - 5 and 1", 1);
        law("9999 * 9999 * 9999 * 9999 * 9999 < 0", 9999 * 9999 * 9999 * 9999 * 9999 < 0 ? 1 : 0);
        law("9999 * 9999 * 43 < 0", 9999 * 9999 * 43 < 0 ? 1 : 0);
        law("9999 * 9999 * 9999 = 0 - 1000 * 1000", 9999 * 9999 * 9999 == -1000000 ? 1 : 0);
        OtterWrits dated = Check.told("place a water 0; wets date * 2 + 1;");
        Check.same("by date, 1 day", dated.later(0, 1), 1);
        Check.same("by date, 4 days", dated.later(0, 4), 7);
        StringBuilder longest = new StringBuilder("place a water 0;wets 3");
        while (longest.length() < 995) {
            longest.append("+1-1");
        }
        Check.same("a law as long as can be", Check.told(longest + ";").later(0, 1), 3);
    }

    private static void sessions() {
        OtterWrits x = Check.told(FULL);
        Check.same("session", Check.session(x, "day; take o w; swim o b; serve w;"), 0);
        Check.same("lines", x.count(9), 4);
        Check.sessionFault(x, "^place", 1);
        Check.sessionFault(x, "^o", 1);
        Check.sessionFault(x, "day ^day", 1);
        Check.sessionFault(x, "day^", 1);
        Check.sessionFault(x, "take ^;", 1);
        Check.sessionFault(x, "take ^day w;", 1);
        Check.sessionFault(x, "take o ^;", 1);
        Check.sessionFault(x, "take o w ^w;", 1);
        Check.sessionFault(x, "swim o b^", 1);
        Check.sessionFault(x, "serve ^3;", 1);
        Check.sessionFault(x, "take ^w w;", 2);
        Check.sessionFault(x, "take o ^o;", 2);
        Check.sessionFault(x, "swim ^a a;", 2);
        Check.sessionFault(x, "swim o ^w;", 2);
        Check.sessionFault(x, "serve ^p;", 2);
        Check.same("a fault leaves the session", x.count(9), 4);
        String forty = "";
        for (int i = 0; i < 40; i++) {
            forty += "day;";
        }
        Check.same("40 lines", Check.session(x, forty), 0);
        Check.same("lines", x.count(9), 40);
        Check.sessionFault(x, forty + "^day;", 5);
        Check.sessionFault(x, forty + "^serve", 5);
        Check.sessionFault(x, forty + "^w", 1);
        Check.same("an empty session", Check.session(x, " "), 0);
        Check.same("lines", x.count(9), 0);
        Check.same("a session of days without a county", Check.session(new OtterWrits(), "day;day;"), 0);
    }

    private static void aFaultLeavesAll() {
        OtterWrits x = Check.told(FULL);
        Check.session(x, "day;");
        x.day();
        x.see(0, 1, true);
        x.mark(2, false);
        Check.same("a wrong county", Check.county(x, "place z water 1; place y water 2; rain 3; wets 5; place y"), 3 + 16 * 56);
        Check.same("places", x.count(0), 2);
        Check.same("writs", x.count(4), 1);
        Check.same("day", x.count(5), 1);
        Check.same("rain", x.count(6), 1);
        Check.same("lines", x.count(9), 1);
        Check.same("seen", x.count(10), 1);
        Check.same("past", x.count(11), 1);
        Check.same("tape", x.count(12), 0);
        Check.same("water", x.place(1, 0), 2);
        Check.same("law", x.later(1, 1), 2);
        Check.yes("mark", x.mark(2, true));
    }

    private static void aCountyStartsAnew() {
        OtterWrits x = Check.told(FULL + "rain 5 6; wets 7;");
        Check.session(x, "day;");
        x.take(0, 0);
        x.day();
        x.see(0, 1, true);
        x.mark(0, false);
        Check.same("later", x.later(0, 1), 7);
        Check.same("another county", Check.county(x, "place z water 3; place y water 4;"), 0);
        int[] due = {2, 0, 0, 0, 0, 0, 1, 3, 0, 0, 0, 0, 0};
        for (int what = 0; what < due.length; what++) {
            Check.same("count(" + what + ")", x.count(what), due[what]);
        }
        Check.no("mark", x.mark(0, true));
        Check.no("undo", x.undo());
        Check.same("streams", x.place(0, 1), 0);
        Check.same("later", x.later(0, 1), 3);
        Check.same("the same county again", Check.county(x, FULL), 0);
        Check.same("writ", x.writ(0, 2), -1);
        Check.same("swum", x.otter(0, 2), 0);
        Check.same("no county at all", Check.county(x, ""), 0);
        Check.same("places", x.count(0), 0);
    }
}
