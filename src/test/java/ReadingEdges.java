/** Terms, part 1: the tape, the tokens, counties, sessions, the E of wets, faults. */
final class ReadingEdges {
    private static final String[] KEPT = {"place", "water", "stream", "person", "in", "otter", "pace", "writ", "for", "by", "rain",
        "wets", "day", "take", "swim", "serve", "plain", "wary", "bather", "dewy", "not", "and", "or"};
    private static final String PAIR = Tell.places(1, 2);
    private static final String SMALL = PAIR + Tell.persons("plain 0") + Tell.otters(0, 1) + Tell.writs(0, 3);
    /** 2147483647, by NUMBERS of four digits at most. */
    private static final String GREATEST = "(9999*9999*21+9999*4790+8416)";
    private static final String LEAST = "(0-" + GREATEST + "-1)";

    private ReadingEdges() {
    }

    static void all() {
        Edge.in("Terms 1");
        Edge.of("The TAPE has at most 1,000 signs, 10 and 32 .. 126", ReadingEdges::signsOfTheTape);
        Edge.of("what reads it takes it: it is empty then", ReadingEdges::theTapeIsTaken);
        Edge.of("TOKENS, each as long as can be, blanks (10, 32) between where one likes", ReadingEdges::blanks);
        Edge.of("WORDS (letters a .. z, 8 at most)", ReadingEdges::words);
        Edge.of("NUMBERS (1 to 4 digits; a letter may stand right behind)", ReadingEdges::numbers);
        Edge.of("the signs ( ) < = + - * ;", ReadingEdges::signs);
        Edge.of("All else (a longer WORD or NUMBER, too, at its first sign) is none.", ReadingEdges::allElse);
        counties();
        sessionsAndNames();
        laws();
        faults();
        states();
    }

    // ---- the tape and its tokens

    private static void signsOfTheTape() {
        for (int sign = 0; sign < 256; sign++) {
            boolean due = sign == 10 || sign >= 32 && sign <= 126;
            Check.same("a sign " + sign, new OtterWrits().feed((long) sign << 56, 0, 0), due ? 1 : 0);
        }
        OtterWrits x = new OtterWrits();
        Check.same("none", x.count(12), 0);
        Check.feed(x, Tell.times(" ", 999));
        Check.same("999 signs", x.count(12), 999);
        Check.same("one that is none is no sign", x.feed(9, 127, 0), 999);
        Check.same("the 1,000th", x.feed('#', 0, 0), 1000);
        Check.same("the 1,001st", x.feed(' ', ' ', ' '), 1000);
        Check.same("the 1,000th is the last", x.county(), 1 + 16 * 999);
        Check.feed(x, Tell.times(" ", 1000));
        Check.same("the 1,001st is left out", x.feed('#', 0, 0), 1000);
        Check.same("all are blanks", x.county(), 0);
        Check.feed(x, Tell.times(" ", 990) + "aaaaaaaaa#bcd");
        Check.same("in the midst of a feed", x.count(12), 1000);
        Check.same("the first ten came in", x.county(), 1 + 16 * 990);
    }

    private static void theTapeIsTaken() {
        OtterWrits x = Check.told(SMALL);
        Check.same("behind a county", x.count(12), 0);
        Check.same("a session", Check.session(x, "day;"), 0);
        Check.same("behind a session", x.count(12), 0);
        Check.same("a wrong session", Check.session(x, "day; take;"), 1 + 16 * 9);
        Check.same("behind a wrong session", x.count(12), 0);
        Check.same("a wrong county", Check.county(x, "rain 1; #"), 1 + 16 * 8);
        Check.same("behind a wrong county", x.count(12), 0);
        Check.same("it begins from 0 again", Check.county(x, " #"), 1 + 16);
        Check.same("what is empty is a session of no lines", x.session(), 0);
        Check.same("no lines", x.count(9), 0);
        Check.same("what is empty is a county of nothing", x.county(), 0);
        Check.same("no places", x.count(0), 0);
        Check.feed(x, Tell.times(" ", 1000));
        Check.same("a full one is taken", x.session(), 0);
        Check.same("it is empty", x.count(12), 0);
        OtterWrits y = new OtterWrits();
        Check.same("a longer text", Check.county(y, "rain 12"), 4 + 16 * 5);
        Check.same("a shorter one, right behind", Check.county(y, "rain 1"), 1 + 16 * 6);
        Check.same("a longer text", Check.county(y, "wets levels"), 1 + 16 * 5);
        Check.same("a shorter one, right behind", Check.county(y, "wets level"), 1 + 16 * 10);
        Check.same("a longer text", Check.county(y, "rain 1;    #"), 1 + 16 * 11);
        Check.same("a shorter one, right behind", Check.county(y, "rain 1; "), 0);
        Check.same("there is room for all again", Check.feed(x, Tell.times(" ", 1000)), 1000);
    }

    private static void blanks() {
        Check.told("\n \n place\npa\n\nwater 1\n;\n \n");
        Check.told("place pa water 1;place pb water 2;stream pa pb;rain 1 2;wets(level)+(falls)-1<2and 3=ways;");
        Check.told("place pa water1;rain0 1;wets 1or 0and not 0;");
        Check.told("place pa water 1 ; \n wets ( level ) + ( falls ) - 1 < 2 and 3 = ways ; ");
        Check.countyFault("^placepa water 1;", 1);
        Check.countyFault("^place\tpa water 1;", 1);
        Check.countyFault("place pa water ^12;", 4);
        Check.countyFault("rain ^123;", 4);
        Check.countyFault("wets 1 ^1;", 1);
        Check.countyFault("wets ^levelfalls;", 1);
        Check.countyFault("wets ^le vel;", 1);
    }

    private static void words() {
        Check.told("place abcdefgh water 1;place ijklmnop water 1;place qrstuvwx water 1;place yz water 1;");
        Check.told("place z water 1;place zzzzzzzz water 1;stream z zzzzzzzz;");
        Check.countyFault("place ^abcdefghi water 1;", 1);
        Check.countyFault("place ^" + Tell.times("z", 60) + " water 1;", 1);
        Check.countyFault("place abcdefgh water 1;place ^abcdefgh water 1;", 3);
        Check.told("place abcdefgh water 1;place abcdefgi water 1;place abcdefg water 1;place bcdefgh water 1;");
        Check.countyFault("place ^` water 1;", 1);
        Check.countyFault("place ^{ water 1;", 1);
        Check.countyFault("place a^` water 1;", 1);
        Check.countyFault("place z^{ water 1;", 1);
        Check.countyFault("place ^Pa water 1;", 1);
        Check.countyFault("place p^A water 1;", 1);
        Check.countyFault("place p^Z water 1;", 1);
        Check.countyFault("place p^1 water 1;", 1);
        Check.countyFault("place p^_a water 1;", 1);
        Check.countyFault("^Place pa water 1;", 1);
    }

    private static void numbers() {
        for (int n = 0; n <= 9; n++) {
            Check.same("the digit " + n, Check.told("place pa water " + n + ";").place(0, 0), n);
            Check.same("four digits", Check.told("place pa water 000" + n + ";").place(0, 0), n);
        }
        Check.told("wets 9999;rain 0000;");
        Check.countyFault("wets ^10000;", 1);
        Check.countyFault("place pa water ^00001;", 1);
        Check.countyFault("rain 1 ^00002;", 1);
        Check.countyFault("place pa water ^;", 1);
        Check.countyFault("place pa water 1^/;", 1);
        Check.countyFault("place pa water 1^:;", 1);
        Check.countyFault("place pa water ^/;", 1);
        Check.countyFault("place pa water ^:;", 1);
        Check.countyFault("place pa water 1^x;", 1);
        Check.countyFault("place pa water ^12x;", 4);
        Check.countyFault("place pa water 1^.5;", 1);
        Check.countyFault("place pa water ^-1;", 1);
        Check.same("a letter right behind", Check.told("place pa water 1;wets 5and 3;").later(0, 1), 1);
    }

    private static void signs() {
        Check.told("wets (1)*2+3-4<5 and 6=7;");
        for (char sign = 33; sign < 127; sign++) {
            if ("()<=+-*;".indexOf(sign) < 0 && !(sign >= '0' && sign <= '9') && !(sign >= 'a' && sign <= 'z')) {
                Check.same("the sign " + sign, Check.county(new OtterWrits(), "wets 1 " + sign + " 2;"), 1 + 16 * 7);
            }
        }
        Check.countyFault("place pa water 1;^;", 1);
        Check.countyFault("wets 1 <^= 2;", 1);
        Check.countyFault("wets 1 =^= 2;", 1);
        Check.countyFault("wets 1 +^+ 2;", 1);
        Check.countyFault("wets 1 -^- 2;", 1);
        Check.countyFault("wets 1 *^* 2;", 1);
    }

    private static void allElse() {
        Check.countyFault("^placeplace pa water 1;", 1);
        Check.countyFault("^#", 1);
        Check.countyFault("place pa water 1;  ^abcdefghijkl", 1);
        Check.countyFault("wets level + ^123456789;", 1);
        Check.countyFault("wets ^" + Tell.times("9", 300) + ";", 1);
        Check.countyFault("wets ^" + Tell.times("a", 300) + ";", 1);
        for (char sign : "()<=+-*;".toCharArray()) {
            String code = "000" + (int) sign;
            Check.countyFault("wets 1 ^" + code + " 1;", 1);
            Check.countyFault("wets (1 ^" + code + ";", 1);
            Check.countyFault("wets ^" + code + "1);", 1);
            Check.countyFault("rain 1 ^" + code, 1);
        }
        OtterWrits x = Check.told(SMALL);
        Check.sessionFault(x, "take oa ^waaaaaaaa;", 1);
        Check.sessionFault(x, "serve ^12345;", 1);
        Check.sessionFault(x, "day; ^!", 1);
    }

    // ---- counties

    private static void counties() {
        Edge.of("COUNTY: any number of place NAME water N ; stream NAME NAME ; person NAME KIND in NAME ; otter NAME in NAME pace N ; "
                + "writ NAME for NAME by N ; rain N N .. ; wets E ;", ReadingEdges::formsOfACounty);
        Edge.of("place: 7 at most, numbered as told (the first one is the ASSIZE); water 0 to 9.", ReadingEdges::placesTold);
        Edge.of("stream: 10 at most, between two PLACES told, not the same, each two have one at most.", ReadingEdges::streamsTold);
        Edge.of("person: 5 at most, numbered as told; KIND: plain, wary, bather, dewy; in a PLACE told.", ReadingEdges::personsTold);
        Edge.of("otter: 3 at most, numbered as told; in a PLACE told; pace 1 to 3.", ReadingEdges::ottersTold);
        Edge.of("writ: 6 at most, numbered as told; for a PERSON told; by the day 0 to 60.", ReadingEdges::writsTold);
        Edge.of("rain 0 to 9 of one day behind another, 1 to 12, again and again (1).", ReadingEdges::rainTold);
        Edge.of("rain, wets: once each.", ReadingEdges::onceEach);
    }

    /** Each token of a form is left out with all behind it, and is put for others that can't stand there. */
    private static void form(String ahead, String form, String... others) {
        String[] tokens = form.split(" ");
        String before = ahead;
        for (int i = 0; i < tokens.length; i++) {
            String behind = "";
            for (int j = i + 1; j < tokens.length; j++) {
                behind += " " + tokens[j];
            }
            if (i > 0) {
                Check.countyFault(before + "^", 1);
                Check.countyFault(before + "\n ^", 1);
            }
            Check.countyFault(before + "^#" + behind, 1);
            for (String other : others[i].split(" ")) {
                Check.countyFault(before + "^" + other + behind, 1);
            }
            before += tokens[i] + " ";
        }
        Check.told(before);
    }

    private static void formsOfACounty() {
        Check.told("");
        Check.told(" \n");
        String word = "place in ; 1 ( not";
        form(PAIR, "place pz water 1 ;", "pz water day 1 ;", word, "pz in 1 ;", "pz water ; -", "pz place 1 (");
        form(PAIR, "stream pa pb ;", "streams 1", word, word, "pa stream 1 )");
        form(PAIR, "person pz plain in pa ;", "persons 1", word, "pz person in 1 ;", "pa plain by 1 ;", word, "pa in 1 +");
        form(PAIR, "otter pz in pa pace 1 ;", "otters 1", word, "pz for pa 1 ;", word, "in pb 1 ;", "pa pace ; <", "pa 1 otter =");
        form(PAIR + Tell.persons("plain 0"), "writ pz for qa by 1 ;", "writs 1", word, "in qa 1 ;", word, "in for 1 ;", "qa by ; *",
                "qa 1 writ -");
        form("", "rain 1 2 ;", "rains 1", "; rain a (", "rain a ( +", "rain a ( +");
        form("", "wets 1 ;", "wet 1", "; wets a ) + and or < =", "1 a not ( ) level wets");
        Check.told("wets 1;rain 2;" + PAIR + Tell.streams(1, 0) + Tell.otters(1, 1) + Tell.persons("dewy 1") + "place pz water 0;"
                + Tell.writs(0, 1) + "stream pz pa;");
        for (String first : new String[] {"day;", "take oa wa;", "swim oa pa;", "serve wa;", "water 1;", "plain;", "pa;", "level;"}) {
            Check.countyFault(SMALL + "^" + first, 1);
        }
    }

    private static void placesTold() {
        OtterWrits x = Check.told(Tell.places(0, 9, 8, 7, 6, 5, 4) + Tell.otters(0, 1, 6, 1) + Tell.persons("plain 6") + Tell.writs(0, 1, 0, 1));
        Check.same("seven", x.count(0), 7);
        int[] water = {0, 9, 8, 7, 6, 5, 4};
        for (int p = 0; p < 7; p++) {
            Check.same("numbered as told", x.place(p, 0), water[p]);
        }
        Check.yes("the first one is the ASSIZE", x.take(0, 0));
        Check.no("the last one is not", x.take(1, 1));
        Check.countyFault(Tell.places(0, 1, 2, 3, 4, 5, 6) + "^place ph water 1;", 5);
        Check.countyFault("place pa water ^10;", 4);
        Check.countyFault("place pa water ^9999;", 4);
        Check.countyFault("place pa water ^-;", 1);
        OtterWrits six = Check.told(Tell.places(1, 1, 1, 1, 1, 1));
        Check.same("six", six.count(0), 6);
        Check.same("no seventh", six.place(6, 0), -1);
    }

    private static void streamsTold() {
        String seven = Tell.places(1, 1, 1, 1, 1, 1, 1);
        String ten = Tell.streams(0, 1, 0, 2, 0, 3, 0, 4, 0, 5, 0, 6, 1, 2, 1, 3, 1, 4, 1, 5);
        OtterWrits x = Check.told(seven + ten);
        Check.same("ten", x.count(1), 10);
        int[] links = {126, 61, 3, 3, 3, 3, 1};
        for (int p = 0; p < 7; p++) {
            Check.same("streams of " + p, x.place(p, 1), links[p]);
        }
        Check.countyFault(seven + ten + "^stream pb pg;", 5);
        Check.countyFault(seven + ten + "^stream", 5);
        Check.countyFault("place pa water 1; stream pa ^pb; place pb water 1;", 2);
        Check.countyFault("place pa water 1; stream ^pb pa; place pb water 1;", 2);
        for (int p = 0; p < 7; p++) {
            Check.countyFault(seven + "stream " + Tell.name('p', p) + " ^" + Tell.name('p', p) + ";", 3);
        }
        Check.countyFault(PAIR + "stream pa pb;stream pa ^pb;", 3);
        Check.countyFault(PAIR + "stream pa pb;stream pb ^pa;", 3);
        Check.countyFault(seven + "stream pg pf;stream pf ^pg;", 3);
        Check.same("others beside it", Check.told(Tell.places(1, 1, 1) + Tell.streams(0, 1, 1, 2, 2, 0)).count(1), 3);
    }

    private static void personsTold() {
        OtterWrits x = Check.told(Tell.places(1, 1, 1) + Tell.persons("dewy 2", "bather 1", "wary 0", "plain 1", "dewy 0"));
        int[][] due = {{3, 2}, {2, 1}, {1, 0}, {0, 1}, {3, 0}};
        Check.same("five", x.count(2), 5);
        for (int q = 0; q < 5; q++) {
            Check.same("kind of " + q, x.person(q, 0), due[q][0]);
            Check.same("place of " + q, x.person(q, 1), due[q][1]);
        }
        Check.countyFault(PAIR + Tell.persons("plain 0", "plain 0", "plain 0", "plain 0", "plain 0") + "^person qf plain in pa;", 5);
        for (String no : new String[] {"qa", "plains", "bath", "dew", "warry", "place", "level", "1", ";"}) {
            Check.countyFault(PAIR + "person qb ^" + no + " in pa;", 1);
        }
        Check.countyFault(PAIR + "person qa plain in ^pc; place pc water 1;", 2);
    }

    private static void ottersTold() {
        OtterWrits x = Check.told(Tell.places(1, 1, 1) + Tell.otters(2, 3, 0, 1, 1, 2));
        int[][] due = {{3, 2}, {1, 0}, {2, 1}};
        Check.same("three", x.count(3), 3);
        for (int o = 0; o < 3; o++) {
            Check.same("pace of " + o, x.otter(o, 0), due[o][0]);
            Check.same("place of " + o, x.otter(o, 1), due[o][1]);
        }
        Check.countyFault(PAIR + Tell.otters(0, 1, 0, 2, 0, 3) + "^otter od in pa pace 1;", 5);
        Check.countyFault(PAIR + "otter oa in pa pace ^0;", 4);
        Check.countyFault(PAIR + "otter oa in pa pace ^4;", 4);
        Check.countyFault(PAIR + "otter oa in pa pace ^9999;", 4);
        Check.countyFault(PAIR + "otter oa in ^pc pace 1; place pc water 1;", 2);
    }

    private static void writsTold() {
        String people = PAIR + Tell.persons("plain 0", "plain 1");
        OtterWrits x = Check.told(people + Tell.writs(1, 0, 0, 60, 1, 59, 0, 1, 1, 30, 0, 0));
        int[][] due = {{1, 0}, {0, 60}, {1, 59}, {0, 1}, {1, 30}, {0, 0}};
        Check.same("six", x.count(4), 6);
        for (int w = 0; w < 6; w++) {
            Check.same("for whom " + w, x.writ(w, 0), due[w][0]);
            Check.same("day of " + w, x.writ(w, 1), due[w][1]);
        }
        Check.countyFault(people + Tell.writs(0, 1, 0, 1, 0, 1, 0, 1, 0, 1, 0, 1) + "^writ wg for qa by 1;", 5);
        Check.countyFault(people + "writ wa for qa by ^61;", 4);
        Check.countyFault(people + "writ wa for qa by ^9999;", 4);
        Check.countyFault(PAIR + "writ wa for ^qa by 1; person qa plain in pa;", 2);
    }

    private static void rainTold() {
        int[] due = {0, 9, 1, 8, 2, 7, 3, 6, 4, 5, 0, 9};
        OtterWrits x = Check.told("rain 0 9 1 8 2 7 3 6 4 5 0 9;");
        for (int d = 0; d < 40; d++) {
            Check.same("rain of " + d, x.count(6), due[d % 12]);
            x.day();
        }
        OtterWrits one = Check.told("rain 7;");
        OtterWrits two = Check.told("rain 3 4;");
        OtterWrits none = Check.told("wets 1;");
        for (int d = 0; d < 5; d++) {
            Check.same("one on " + d, one.count(6), 7);
            Check.same("two on " + d, two.count(6), 3 + d % 2);
            Check.same("none told on " + d, none.count(6), 1);
            one.day();
            two.day();
            none.day();
        }
        Check.countyFault("rain ^;", 1);
        Check.countyFault("rain ^10;", 4);
        Check.countyFault("rain 9 ^10;", 4);
        Check.countyFault("rain 0 9 1 8 2 7 3 6 4 5 0 ^10;", 4);
        Check.countyFault("rain 0 9 1 8 2 7 3 6 4 5 0 9 ^1;", 5);
        Check.same("rain of none is not as of 0", Check.told("rain 0;").count(6), 0);
    }

    private static void onceEach() {
        Check.told("rain 1;wets 1;");
        Check.countyFault("rain 1;^rain 2;", 3);
        Check.countyFault("wets 1;^wets 2;", 3);
        Check.countyFault("rain 1;wets 1;" + PAIR + "^rain", 3);
        Check.countyFault("rain 0;wets 0;^wets", 3);
        OtterWrits x = Check.told("rain 1;wets 1;");
        Check.same("a new county has its own", Check.county(x, "rain 2;wets 2;"), 0);
        Check.same("behind a wrong one, too", Check.county(x, "rain 2;wets 2;rain"), 3 + 16 * 14);
        Check.same("and again", Check.county(x, "wets 2;rain 3;"), 0);
        Check.same("its rain", x.count(6), 3);
    }

    // ---- sessions, names

    private static void sessionsAndNames() {
        Edge.of("SESSION: any number of day ; take NAME NAME ; swim NAME NAME ; serve NAME ; (an OTTER a WRIT; an OTTER to a PLACE; a WRIT), "
                + "40 lines at most.", ReadingEdges::linesTold);
        Edge.of("A NAME is another WORD than place, water, stream, person, in, otter, pace, writ, for, by, rain, wets, day, take, swim, "
                + "serve, the KINDS, not, and, or", ReadingEdges::keptWords);
        Edge.of("no two (PLACES, PERSONS, OTTERS, WRITS) are alike", ReadingEdges::noTwoAlike);
    }

    private static void line(OtterWrits x, String form, String... others) {
        String[] tokens = form.split(" ");
        String before = "day; ";
        for (int i = 0; i < tokens.length; i++) {
            String behind = "";
            for (int j = i + 1; j < tokens.length; j++) {
                behind += " " + tokens[j];
            }
            if (i > 0) {
                Check.sessionFault(x, before + "^", 1);
                Check.sessionFault(x, before + " \n^", 1);
            }
            Check.sessionFault(x, before + "^#" + behind, 1);
            for (String other : others[i].split(" ")) {
                Check.sessionFault(x, before + "^" + other + behind, 1);
            }
            before += tokens[i] + " ";
        }
        Check.same("session of " + before, Check.session(x, before), 0);
        Check.same("two lines", x.count(9), 2);
    }

    private static void linesTold() {
        String word = "day ; 1 (";
        line(Check.told(SMALL), "day ;", "days 1 ; place otter oa", "oa day 1 )");
        line(Check.told(SMALL), "take oa wa ;", "oa", word, word, "wa take 1 +");
        line(Check.told(SMALL), "swim oa pb ;", "pb", word, word, "pa swim 1 -");
        line(Check.told(SMALL), "serve wa ;", "wa", word, "wa serve 1 *");
        OtterWrits x = Check.told(SMALL);
        Check.same("no lines", Check.session(x, ""), 0);
        Check.same("none", x.count(9), 0);
        Check.same("39 lines", Check.session(x, Tell.times("day;", 39)), 0);
        Check.same("39", x.count(9), 39);
        Check.same("40 lines", Check.session(x, Tell.times("day;", 36) + "take oa wa;swim oa pb;serve wa;day;"), 0);
        Check.same("40", x.count(9), 40);
        Check.sessionFault(x, Tell.times("day;", 40) + "^day;", 5);
        Check.sessionFault(x, Tell.times("day;", 40) + "^take oa wa;", 5);
        Check.sessionFault(x, Tell.times("day;", 40) + "^swim", 5);
        Check.sessionFault(x, Tell.times("day;", 40) + "^serve #", 5);
        Check.same("blanks behind forty", Check.session(x, Tell.times("day;", 40) + " \n "), 0);
        Check.same("without a county: no names", Check.session(new OtterWrits(), "take oa wa;"), 2 + 16 * 5);
        Check.same("without a county: days", Check.session(new OtterWrits(), Tell.times("day;", 40)), 0);
    }

    private static void keptWords() {
        for (String word : KEPT) {
            Check.countyFault("place ^" + word + " water 1;", 1);
            Check.countyFault(PAIR + "stream ^" + word + " pb;", 1);
            Check.countyFault(PAIR + "stream pa ^" + word + ";", 1);
            Check.countyFault(PAIR + "person ^" + word + " plain in pa;", 1);
            Check.countyFault(PAIR + "person qa plain in ^" + word + ";", 1);
            Check.countyFault(PAIR + "otter ^" + word + " in pa pace 1;", 1);
            Check.countyFault(PAIR + "otter oa in ^" + word + " pace 1;", 1);
            Check.countyFault(SMALL + "writ ^" + word + " for qa by 1;", 1);
            Check.countyFault(SMALL + "writ wb for ^" + word + " by 1;", 1);
            OtterWrits x = Check.told(SMALL);
            Check.sessionFault(x, "take ^" + word + " wa;", 1);
            Check.sessionFault(x, "take oa ^" + word + ";", 1);
            Check.sessionFault(x, "swim ^" + word + " pa;", 1);
            Check.sessionFault(x, "swim oa ^" + word + ";", 1);
            Check.sessionFault(x, "serve ^" + word + ";", 1);
            Check.told("place " + word + "z water 1;place z" + word.substring(1) + " water 1;");
        }
        Check.told("place level water 1;place falls water 1;stream level falls;person ways plain in falls;otter date in level pace 1;"
                + "wets level+falls+ways+date;");
        Check.told("place test water 1;place part water 1;place county water 1;place session water 1;place assize water 1;");
    }

    private static void noTwoAlike() {
        String[] heads = {"place ^X water 1;", "person ^X plain in pa;", "otter ^X in pa pace 1;", "writ ^X for qa by 1;"};
        for (String head : heads) {
            for (String told : new String[] {"pa", "pb", "qa", "oa", "wa"}) {
                Check.countyFault(SMALL + head.replace("X", told), 3);
            }
            Check.told(SMALL + head.replace("^", "").replace("X", "za"));
        }
        OtterWrits x = Check.told("place pa water 1;");
        Check.same("another county may tell it again", Check.county(x, "place pa water 1;"), 0);
        Check.same("what a wrong county told is not told", Check.county(x, "place pb water 1;#"), 1 + 16 * 17);
        Check.same("so it may be told", Check.county(x, "place pb water 1;"), 0);
    }

    // ---- the E of wets

    private static void laws() {
        Edge.of("E: TEST { and TEST or or TEST }, from the left", ReadingEdges::fromTheLeft);
        Edge.of("TEST: SUM, or SUM < SUM, or SUM = SUM", ReadingEdges::tests);
        Edge.of("SUM: PRODUCT { + or - PRODUCT }", ReadingEdges::sums);
        Edge.of("PRODUCT: PART { * PART }", ReadingEdges::products);
        Edge.of("PART: a NUMBER, a fact, not PART, ( E )", ReadingEdges::parts);
        Edge.of("no PART lies within 5 of not and ( ).", ReadingEdges::nested);
        Edge.of("Facts: level (the PLACE's water), falls (the day's rain), ways (how many streams it has), date (the day's number).",
                ReadingEdges::facts);
        Edge.of("Of not, and, or, < and = comes 1 or 0; what is not 0 is so", ReadingEdges::truth);
        Edge.of("ints wrap", ReadingEdges::wraps);
        Edge.of("Without wets: level + falls - 1.", ReadingEdges::withoutWets);
    }

    /** The water that comes by a law of 4, by a rain of 3, with one stream, on the day 0. */
    private static void law(String law, int due) {
        OtterWrits x = Check.told("place pa water 4;place pb water 0;stream pa pb;rain 3;wets " + law + ";");
        Check.same("wets " + law, x.later(0, 1), due);
    }

    private static void fromTheLeft() {
        law("1 or 1 and 0", 0);
        law("1 or (1 and 0)", 1);
        law("0 and 0 or 1", 1);
        law("0 and (0 or 1)", 0);
        law("0 or 1 and 1 or 0 and 1", 1);
        law("5", 5);
        law("2 and 2 = 2", 1);
        law("0 < 1 and 1 < 2 and 2 < 3", 1);
        law("1 or 0 or 0 and 0", 0);
        Check.countyFault("wets 1 and ^;", 1);
        Check.countyFault("wets 1 or ^and 1;", 1);
        Check.countyFault("wets ^or 1;", 1);
        Check.countyFault("wets ^and 1;", 1);
    }

    private static void tests() {
        law("1 < 2", 1);
        law("2 < 2", 0);
        law("3 < 2", 0);
        law("1 = 2", 0);
        law("2 = 2", 1);
        law("3 = 2", 0);
        law("1 + 1 < 1 + 2", 1);
        law("2 * 2 = 5 - 1", 1);
        law("0 < 1 or 7", 1);
        law("(0 < 1) + 7", 8);
        law("(1 < 2) < 2", 1);
        Check.countyFault("wets 1 < 2 ^< 3;", 1);
        Check.countyFault("wets 1 < 2 ^= 3;", 1);
        Check.countyFault("wets 1 = 2 ^< 3;", 1);
        Check.countyFault("wets 1 = 2 ^= 3;", 1);
        Check.countyFault("wets ^< 3;", 1);
        Check.countyFault("wets 1 = ^;", 1);
        Check.countyFault("wets (1 < 2 ^< 3);", 1);
    }

    private static void sums() {
        law("9 - 3 - 2", 4);
        law("9 - (3 - 2)", 8);
        law("9 - 3 + 2", 8);
        law("1 + 1 + 1 + 1 + 1 + 1 + 1 + 1", 8);
        law("3 - 5 + 4", 2);
        Check.countyFault("wets ^- 1;", 1);
        Check.countyFault("wets ^+ 1;", 1);
        Check.countyFault("wets 1 + ^- 1;", 1);
        Check.countyFault("wets 1 - ^;", 1);
    }

    private static void products() {
        law("1 + 2 * 3", 7);
        law("2 * 3 + 1", 7);
        law("9 - 2 * 4", 1);
        law("2 * 2 * 2", 8);
        law("2 * 2 < 2 * 3", 1);
        Check.countyFault("wets ^* 2;", 1);
        Check.countyFault("wets 2 * ^;", 1);
        Check.countyFault("wets 2 ^(3);", 1);
    }

    private static void parts() {
        law("0", 0);
        law("9999 = 1000 * 10 - 1", 1);
        law("level", 4);
        law("not 0 + 1", 2);
        law("not 0 * 5", 5);
        law("not 3 * 5", 0);
        law("not (0 * 5)", 1);
        law("not 1 < 1", 1);
        law("not 0 = 0", 0);
        law("not not 7", 1);
        law("(level)", 4);
        law("(1 or 0) + (0 and 1) + 1", 2);
        Check.countyFault("wets not ^;", 1);
        Check.countyFault("wets (^);", 1);
        Check.countyFault("wets (1^;", 1);
        Check.countyFault("wets 1^);", 1);
        Check.countyFault("wets ^pa;", 1);
        Check.countyFault("place pa water 1;wets ^pa;", 1);
        Check.countyFault("wets ^water;", 1);
        Check.countyFault("wets ^levels;", 1);
        String longest = "place pa water 0;wets 0" + Tell.times("+1", 480) + "-475" + Tell.times(" ", 12) + ";";
        Check.same("1,000 signs", longest.length(), 1000);
        Check.same("as long as the TAPE", Check.told(longest).later(0, 1), 5);
        law("1" + Tell.times("+1-1", 200), 1);
        law("1" + Tell.times("*1", 400), 1);
        law("0" + Tell.times(" or 0", 150) + " or 1", 1);
    }

    private static void nested() {
        String[] inner = {"level", "7", "not 1", "(1)"};
        for (int depth = 0; depth <= 5; depth++) {
            for (int mix = 0; mix < 1 << depth; mix++) {
                StringBuilder open = new StringBuilder("wets ");
                StringBuilder close = new StringBuilder();
                for (int i = 0; i < depth; i++) {
                    open.append((mix >> i & 1) != 0 ? "not " : "(");
                    close.append((mix >> i & 1) != 0 ? "" : ")");
                }
                for (int i = 0; i < inner.length; i++) {
                    boolean one = i >= 2;
                    if (depth == 5) {
                        Check.countyFault(open + "^" + inner[i] + close + ";", 5);
                    } else if (depth == 4 && one) {
                        Check.countyFault(open + (i == 2 ? "not ^1" : "(^1)") + close + ";", 5);
                    } else {
                        Check.told(open + inner[i] + close + ";");
                    }
                }
            }
        }
        Check.told("wets ((((1))))+((((2))))*((((3))))-not not not not 4<((((5))));");
        Check.told("wets (1)+(2)+(3)+(4)+(5)+(6)+(7) and not 1 and not 2 and not 3 and not 4 and not 5 and not 6;");
        Check.countyFault("wets ((((1 + (^2)))));", 5);
        Check.countyFault("wets (((1)+(2)) + (((3) * ((^4)))));", 5);
    }

    private static void facts() {
        for (int n = 0; n <= 9; n++) {
            Check.same("level " + n, Check.told("place pa water " + n + ";wets 9-level;").later(0, 1), 9 - n);
            Check.same("falls " + n, Check.told("place pa water 1;rain " + n + ";wets 9-falls;").later(0, 1), 9 - n);
        }
        OtterWrits own = Check.told(Tell.places(3, 5, 7) + "wets level+1;");
        for (int p = 0; p < 3; p++) {
            Check.same("its own level", own.later(p, 1), 4 + 2 * p);
        }
        OtterWrits hub = Check.told(Tell.places(1, 1, 1, 1, 1, 1, 1) + Tell.streams(0, 1, 2, 0, 0, 3, 4, 0, 0, 5, 6, 0, 1, 2) + "wets ways;");
        int[] ways = {6, 2, 2, 1, 1, 1, 1};
        for (int p = 0; p < 7; p++) {
            Check.same("ways of " + p, hub.later(p, 1), ways[p]);
        }
        Check.same("ways of one alone", Check.told("place pa water 1;wets 5+ways;").later(0, 1), 5);
        OtterWrits day = Check.told("place pa water 1;rain 1 2 3;wets date;");
        Check.same("date, the first day", day.later(0, 1), 0);
        Check.same("date, the second", day.later(0, 2), 1);
        Check.same("date, the tenth", day.later(0, 10), 9);
        OtterWrits last = Check.told("place pa water 1;wets date=59;");
        Check.same("date 58", last.later(0, 59), 0);
        Check.same("date 59", last.later(0, 60), 1);
        OtterWrits falls = Check.told("place pa water 1;rain 1 2 3;wets falls;");
        for (int d = 1; d <= 60; d++) {
            Check.same("the day's rain, behind " + d, falls.later(0, d), (d - 1) % 3 + 1);
        }
    }

    private static void truth() {
        law("7 and 9", 1);
        law("7 or 9", 1);
        law("0 or 9", 1);
        law("0 or 0", 0);
        law("7 and 0", 0);
        law("0 and 7", 0);
        law("(0 or 0) + 5", 5);
        law("(0 or 3) + 5", 6);
        law("(0 and 3) + 5", 5);
        law("(2 and 3) + 5", 6);
        law("(3 < 3) + 5", 5);
        law("(2 < 3) + 5", 6);
        law("(2 = 3) + 5", 5);
        law("(3 = 3) + 5", 6);
        law("not 3 + 5", 5);
        law("not 0 + 5", 6);
        law("0 - 7 and 0 - 1", 1);
        law("0 - 7 or 0", 1);
        law("not (0 - 7)", 0);
        law("not 7", 0);
        law("not 0", 1);
        law("2 * (3 < 4) + 4 * (5 = 5)", 6);
        law("0 - 1 < 0", 1);
        law("0 < 0 - 1", 0);
        law(GREATEST + " and 256 * 256 * 256", 1);
    }

    private static void wraps() {
        law(GREATEST + " < 0", 0);
        law("0 < " + GREATEST, 1);
        law(GREATEST + " + 1 < 0", 1);
        law(GREATEST + " + 1 = " + LEAST, 1);
        law(LEAST + " - 1 = " + GREATEST, 1);
        law(LEAST + " < " + GREATEST, 1);
        law("0 - " + LEAST + " = " + LEAST, 1);
        law(LEAST + " * (0 - 1) = " + LEAST, 1);
        law(GREATEST + " * 2 + 2", 0);
        law(GREATEST + " * 2 + 7", 5);
        law("256 * 256 * 256 * 256", 0);
        law("256 * 256 * 256 * 256 + 6", 6);
        law("256 * 256 * 256 * 128 < 0", 1);
        law("9999 * 9999 * 9999 * 9999 < 0", 9999 * 9999 * 9999 * 9999 < 0 ? 1 : 0);
        law("not (256 * 256 * 256 * 256)", 1);
        law("256 * 256 * 256 * 256 or 0", 0);
        law(GREATEST, 9);
        law(LEAST, 0);
        law(GREATEST + " + 1", 0);
        law(LEAST + " - 1", 9);
        law(LEAST + " - 8 + " + LEAST + " + 11", 3);
        law(GREATEST + " - " + LEAST, 0);
        law("5 + " + GREATEST + " - " + LEAST, 4);
    }

    private static void withoutWets() {
        int[][] due = {{0, 0, 0}, {0, 1, 0}, {0, 2, 1}, {1, 0, 0}, {1, 1, 1}, {9, 0, 8}, {9, 1, 9}, {9, 2, 9}, {9, 9, 9}, {4, 3, 6}, {0, 9, 8}, {1, 9, 9}};
        for (int[] row : due) {
            OtterWrits x = Check.told("place pa water " + row[0] + ";rain " + row[1] + ";");
            Check.same("level " + row[0] + ", falls " + row[1], x.later(0, 1), row[2]);
        }
        OtterWrits x = Check.told("place pa water 4;wets 2;");
        Check.same("by a law", x.later(0, 1), 2);
        Check.same("another county", Check.county(x, "place pa water 4;rain 3;"), 0);
        Check.same("without wets again", x.later(0, 1), 6);
    }

    // ---- faults

    private static void faults() {
        Edge.of("FAULTS, kind + 16 * the place (from 0) of a token, the end being one at the text's length", ReadingEdges::placesOfFaults);
        Edge.of("of the first token from the left that is wrong the least", ReadingEdges::firstAndLeast);
        Edge.of("1 it is none, or can't stand there", ReadingEdges::faultsOfForm);
        Edge.of("2 a NAME of no PLACE (behind stream, its second, behind in, the second of swim), of no PERSON (behind for), of no OTTER "
                + "(behind take, swim), of no WRIT (the second of take; behind serve) told", ReadingEdges::faultsOfUntold);
        Edge.of("3 a NAME told already; the second one of stream that is the first one, or to which there is one (told from either); rain, "
                + "wets a second time", ReadingEdges::faultsOfAgain);
        Edge.of("4 a NUMBER that is not as told", ReadingEdges::faultsOfNumbers);
        Edge.of("5 one too many: the words place of an eighth, stream of an eleventh, person of a sixth, otter of a fourth, writ of a seventh, "
                + "a thirteenth NUMBER of rain, the first word of a 41st line of a SESSION; not, or a PART, within 5 others.",
                ReadingEdges::faultsOfMany);
    }

    private static void placesOfFaults() {
        Check.countyFault("^#", 1);
        Check.countyFault(" ^#", 1);
        Check.countyFault("\n\n  ^#", 1);
        Check.countyFault("place^", 1);
        Check.countyFault("place   \n^", 1);
        Check.countyFault(Tell.times(" ", 999) + "^#", 1);
        Check.countyFault("place" + Tell.times(" ", 995) + "^", 1);
        Check.countyFault("place" + Tell.times(" ", 994) + "^", 1);
        Check.countyFault(Tell.times(" ", 994) + "place ^", 1);
        Check.countyFault(Tell.times("\n", 700) + "wets (1^", 1);
        Check.countyFault(Tell.times(" ", 980) + "place pa water ^10;", 4);
        OtterWrits x = Check.told(SMALL);
        Check.sessionFault(x, "take^", 1);
        Check.sessionFault(x, "day" + Tell.times(" ", 997) + "^", 1);
        Check.sessionFault(x, Tell.times(" ", 994) + "take ^;", 1);
        Check.sessionFault(x, "serve ^pa;", 2);
    }

    private static void firstAndLeast() {
        Check.countyFault("place pa water ^10;place pa water 10;#", 4);
        Check.countyFault("stream ^pa pa;rain 10;", 2);
        Check.countyFault("rain ^10;#", 4);
        Check.countyFault(PAIR + "place ^pa #;", 3);
        Check.countyFault("wets (((((^1 #", 5);
        Check.countyFault("rain 1 2 3 4 5 6 7 8 9 0 1 2 ^10;", 4);
        Check.countyFault("rain 1 2 3 4 5 6 7 8 9 0 1 2 ^9;", 5);
        Check.countyFault("rain 1 2 3 4 5 6 7 8 9 0 1 2 ^12345;", 1);
        Check.countyFault("rain 1 2 3 4 5 6 7 8 9 0 1 2 ^a;", 1);
        Check.countyFault("wets (((((^#", 1);
        Check.countyFault("wets (((((^12345", 1);
        Check.countyFault("wets (((((^)", 1);
        Check.countyFault("wets (((((^", 1);
        Check.countyFault("wets not not not not not ^and 1;", 1);
        Check.countyFault("wets not not not not not ^pa;", 1);
        Check.countyFault("wets not not not not not ^not #;", 5);
        Check.countyFault(Tell.places(1, 1, 1, 1, 1, 1, 1) + "^place pa water 10;", 5);
        Check.countyFault(Tell.places(1, 1, 1, 1, 1, 1, 1) + "^places", 1);
        Check.countyFault(PAIR + "stream ^pz pz;", 2);
        Check.countyFault(SMALL + "stream pa ^qa;", 2);
        OtterWrits x = Check.told(SMALL);
        Check.sessionFault(x, "take ^ob wb;", 2);
        Check.sessionFault(x, Tell.times("day;", 40) + "^days;", 1);
        Check.sessionFault(x, Tell.times("day;", 40) + "^;", 1);
        Check.sessionFault(x, Tell.times("day;", 40) + "^serve wb;", 5);
        Check.sessionFault(x, Tell.times("day;", 39) + "serve ^wb;day;", 2);
    }

    private static void faultsOfForm() {
        for (String no : new String[] {"#", "abcdefghi", "12345", ";", "1", "(", "day", "water", "pa", "not"}) {
            Check.countyFault("^" + no, 1);
            Check.countyFault(SMALL + "^" + no, 1);
        }
        for (String no : new String[] {"#", "abcdefghi", "12345", ";", "1", "(", "place", "rain", "oa", "not"}) {
            OtterWrits x = Check.told(SMALL);
            Check.sessionFault(x, "^" + no, 1);
            Check.sessionFault(x, "day;^" + no, 1);
            Check.sessionFault(x, "take ^" + (no.equals("oa") ? "day" : no), 1);
        }
    }

    private static void faultsOfUntold() {
        String[] notPlaces = {"qa", "oa", "wa", "zz", "level"};
        for (String no : notPlaces) {
            Check.countyFault(SMALL + "stream ^" + no + " pa;", 2);
            Check.countyFault(SMALL + "stream pa ^" + no + ";", 2);
            Check.countyFault(SMALL + "person qb plain in ^" + no + ";", 2);
            Check.countyFault(SMALL + "otter ob in ^" + no + " pace 1;", 2);
            Check.sessionFault(Check.told(SMALL), "swim oa ^" + no + ";", 2);
        }
        for (String no : new String[] {"pa", "oa", "wa", "zz"}) {
            Check.countyFault(SMALL + "writ wb for ^" + no + " by 1;", 2);
        }
        for (String no : new String[] {"pa", "qa", "wa", "zz"}) {
            Check.sessionFault(Check.told(SMALL), "take ^" + no + " wa;", 2);
            Check.sessionFault(Check.told(SMALL), "swim ^" + no + " pa;", 2);
        }
        for (String no : new String[] {"pa", "qa", "oa", "zz"}) {
            Check.sessionFault(Check.told(SMALL), "take oa ^" + no + ";", 2);
            Check.sessionFault(Check.told(SMALL), "serve ^" + no + ";", 2);
        }
        Check.countyFault("person qa plain in ^qa;", 2);
        Check.countyFault("place pa water 1;otter oa in ^oa pace 1;", 2);
        Check.countyFault("place pa water 1;person qa plain in pa;writ wa for ^wa by 1;", 2);
        OtterWrits x = Check.told(SMALL);
        Check.same("a county without names", Check.county(x, ""), 0);
        Check.same("names of the county ahead are not told", Check.session(x, "serve wa;"), 2 + 16 * 6);
        Check.same("nor for a county", Check.county(x, "stream pa pb;"), 2 + 16 * 7);
    }

    private static void faultsOfAgain() {
        Check.countyFault("place pa water 1;place ^pa water 1;", 3);
        Check.countyFault(SMALL + "person ^qa plain in pa;", 3);
        Check.countyFault(SMALL + "otter ^oa in pa pace 1;", 3);
        Check.countyFault(SMALL + "writ ^wa for qa by 1;", 3);
        Check.countyFault(PAIR + "stream pb ^pb;", 3);
        Check.countyFault(PAIR + "stream pb pa;stream pb ^pa;", 3);
        Check.countyFault(PAIR + "stream pb pa;stream pa ^pb;", 3);
        Check.countyFault("rain 1 1;^rain;", 3);
        Check.countyFault("wets level;^wets;", 3);
        Check.told(Tell.places(1, 1, 1) + Tell.streams(0, 1, 0, 2) + "rain 1;wets 1;");
    }

    private static void faultsOfNumbers() {
        Check.countyFault("place pa water ^10", 4);
        Check.countyFault("rain ^10", 4);
        Check.countyFault("rain 1 2 ^9999", 4);
        Check.countyFault(PAIR + "otter oa in pa pace ^0", 4);
        Check.countyFault(PAIR + "otter oa in pa pace ^4", 4);
        Check.countyFault(SMALL + "writ wb for qa by ^61", 4);
        Check.countyFault(SMALL + "writ wb for qa by ^0061", 4);
        Check.told(PAIR + "otter oa in pa pace 0003;person qa plain in pa;writ wa for qa by 0060;rain 0009;");
        Check.told("wets 0;");
        Check.told("wets 9999;");
    }

    private static void faultsOfMany() {
        String seven = Tell.places(1, 1, 1, 1, 1, 1, 1);
        String ten = Tell.streams(0, 1, 0, 2, 0, 3, 0, 4, 0, 5, 0, 6, 1, 2, 1, 3, 1, 4, 1, 5);
        Check.countyFault(seven + "^place", 5);
        Check.countyFault(seven + ten + "^stream pa pa;", 5);
        Check.countyFault(PAIR + Tell.persons("plain 0", "plain 0", "plain 0", "plain 0", "plain 0") + "^person", 5);
        Check.countyFault(PAIR + Tell.otters(0, 1, 0, 1, 0, 1) + "^otter", 5);
        Check.countyFault(SMALL + "writ wb for qa by 1;writ wc for qa by 1;writ wd for qa by 1;writ we for qa by 1;writ wf for qa by 1;^writ", 5);
        Check.countyFault("rain 1 1 1 1 1 1 1 1 1 1 1 1 ^1", 5);
        Check.told("rain 1 1 1 1 1 1 1 1 1 1 1 1 ;");
        Check.sessionFault(Check.told(SMALL), Tell.times("day;", 40) + "^day", 5);
        Check.countyFault("wets not not not not not ^not not 1;", 5);
        Check.countyFault("wets not not not not not ^1;", 5);
        Check.countyFault("wets not not not not not ^level;", 5);
        Check.countyFault("wets not not not not not ^(1);", 5);
        Check.countyFault("wets 0+(((((^date)))));", 5);
        OtterWrits x = Check.told(Tell.full());
        int[] most = {7, 10, 5, 3, 6};
        for (int what = 0; what < 5; what++) {
            Check.same("as many as can be: count(" + what + ")", x.count(what), most[what]);
        }
    }

    // ---- what is read

    private static void states() {
        Edge.of("Without a FAULT a COUNTY is the COUNTY from then on: day 0, water and all who are anywhere as told, no otter has swum, all "
                + "WRITS at the ASSIZE, no SESSION, nothing SEEN, nothing can be undone, no MARK is there.", ReadingEdges::aCountyIsIt);
        Edge.of("A SESSION is the SESSION.", ReadingEdges::aSessionIsIt);
        Edge.of("At first: nothing.", ReadingEdges::atFirst);
    }

    /** A county in which much was done. */
    private static OtterWrits busy() {
        OtterWrits x = Check.told(Tell.full());
        Check.same("a session", Check.session(x, "day;take oa wa;"), 0);
        x.take(0, 0);
        x.serve(0);
        x.take(1, 1);
        x.swim(1, 1);
        x.see(0, 1, true);
        x.mark(0, false);
        x.mark(3, false);
        x.day();
        x.swim(2, 2);
        return x;
    }

    private static void aCountyIsIt() {
        OtterWrits x = busy();
        Check.same("the same county again", Check.county(x, Tell.full()), 0);
        Check.equal("all is as told", Check.all(x), Check.all(Check.told(Tell.full())));
        for (int m = 0; m < 4; m++) {
            Check.no("no mark " + m, x.mark(m, true));
        }
        Check.no("nothing can be undone", x.undo());
        OtterWrits y = busy();
        Check.same("another one", Check.county(y, SMALL), 0);
        Check.equal("all is as told", Check.all(y), Check.all(Check.told(SMALL)));
        Check.same("no streams are left", y.place(0, 1), 0);
        OtterWrits z = busy();
        Check.same("an empty one", Check.county(z, ""), 0);
        Check.equal("as at first", Check.all(z), Check.all(new OtterWrits()));
        OtterWrits third = busy();
        Check.same("a second one", Check.county(third, Tell.full()), 0);
        Check.same("a third one", Check.county(third, PAIR), 0);
        Check.equal("nothing of the first", Check.all(third), Check.all(Check.told(PAIR)));
        OtterWrits mended = new OtterWrits();
        Check.same("a wrong one", Check.county(mended, Tell.full() + "#") % 16, 1);
        Check.same("a right one", Check.county(mended, PAIR), 0);
        Check.equal("nothing of the wrong one", Check.all(mended), Check.all(Check.told(PAIR)));
        OtterWrits law = Check.told("wets not 0+not 0;");
        Check.same("a county between", Check.county(law, ""), 0);
        Check.same("a shorter law", Check.county(law, "place pa water 1;wets 5;"), 0);
        Check.same("nothing of the longer law", law.later(0, 1), 5);
        OtterWrits wrong = busy();
        String ahead = Check.all(wrong);
        Check.same("a wrong one", Check.county(wrong, Tell.full() + "#") % 16, 1);
        Check.equal("all stays", Check.all(wrong), ahead);
        Check.yes("what was done can be undone", wrong.undo());
        Check.yes("marks stay", wrong.mark(3, true));
        Check.no("where none is, none comes", wrong.mark(1, true));
    }

    private static void aSessionIsIt() {
        OtterWrits x = Check.told(Tell.full());
        Check.same("a session", Check.session(x, "serve wa;day;"), 0);
        Check.same("two lines", x.count(9), 2);
        Check.same("judged", x.judged(0), 0);
        Check.same("another", Check.session(x, "day;take oc wa;day;"), 0);
        Check.same("three lines", x.count(9), 3);
        Check.same("judged", x.judged(0), 1);
        Check.stays("a wrong one", x, () -> Check.session(x, "serve wa;day"), 1 + 16 * 12);
        Check.stays("one wrong at its 41st line", x, () -> Check.session(x, Tell.times("day;", 41)), 5 + 16 * 160);
        Check.same("an empty one", Check.session(x, ""), 0);
        Check.same("no lines", x.count(9), 0);
        Check.same("judged", x.judged(0), -1);
        OtterWrits y = busy();
        String ahead = Check.all(y);
        Check.same("a session is read", Check.session(y, "day;take oa wa;"), 0);
        Check.equal("nothing else is another", Check.all(y), ahead);
        Check.yes("marks stay", y.mark(0, true));
    }

    private static void atFirst() {
        OtterWrits x = new OtterWrits();
        for (int what = 0; what <= 12; what++) {
            Check.same("count(" + what + ")", x.count(what), what == 6 ? 1 : 0);
        }
        Check.no("undo", x.undo());
        for (int m = 0; m < 4; m++) {
            Check.no("mark " + m, x.mark(m, true));
        }
        Check.same("no place", x.place(0, 0), -1);
        Check.same("no person", x.person(0, 0), -1);
        Check.same("no otter", x.otter(0, 0), -1);
        Check.same("no writ", x.writ(0, 0), -2);
        Check.same("a day goes by", x.day(), 0);
        Check.same("it is the day 1", x.count(5), 1);
    }
}
