import java.util.NoSuchElementException;

/** A low county in which otters serve writs on water; ../shared/DOC.md tells what each call answers. */
public final class OtterWrits {
    public static final int NONE = -1;

    private static final int OTHERS = -2;
    private static final int NO_SHARE = -3;
    private static final int SERVED = 3;

    private static final int MOST_SIGNS = 1000;
    private static final int MOST_PLACES = 7;
    private static final int MOST_STREAMS = 10;
    private static final int MOST_PERSONS = 5;
    private static final int MOST_OTTERS = 3;
    private static final int MOST_WRITS = 6;
    private static final int MOST_RAINS = 12;
    private static final int MOST_LINES = 40;
    private static final int MOST_SEEN = 8;
    private static final int MOST_PAST = 16;
    private static final int MOST_MARKS = 4;
    private static final int MOST_CARRIED = 2;
    private static final int MOST_NESTED = 5;
    private static final int MOST_WATER = 9;
    private static final int MOST_RAIN = 9;
    private static final int LAST_DAY = 60;
    private static final int ASSIZE = 0;

    private static final int WARY = 1;
    private static final int BATHER = 2;
    private static final int DEWY = 3;

    private static final int FAULT_FORM = 1;
    private static final int FAULT_UNTOLD = 2;
    private static final int FAULT_AGAIN = 3;
    private static final int FAULT_NUMBER = 4;
    private static final int FAULT_MANY = 5;

    private static final int TOKEN_END = 0;
    private static final int TOKEN_WORD = 1;
    private static final int TOKEN_NUMBER = 2;
    private static final int TOKEN_SIGN = 3;
    private static final int TOKEN_NONE = 4;

    private static final int LINE_DAY = 0;
    private static final int LINE_TAKE = 1;
    private static final int LINE_SWIM = 2;
    private static final int LINE_SERVE = 3;

    // A word of 8 letters at most fits a long, a letter's code in each byte: so words are compared as numbers.
    private static final long WORD_PLACE = 0x706c616365L;
    private static final long WORD_WATER = 0x7761746572L;
    private static final long WORD_STREAM = 0x73747265616dL;
    private static final long WORD_PERSON = 0x706572736f6eL;
    private static final long WORD_IN = 0x696eL;
    private static final long WORD_OTTER = 0x6f74746572L;
    private static final long WORD_PACE = 0x70616365L;
    private static final long WORD_WRIT = 0x77726974L;
    private static final long WORD_FOR = 0x666f72L;
    private static final long WORD_BY = 0x6279L;
    private static final long WORD_RAIN = 0x7261696eL;
    private static final long WORD_WETS = 0x77657473L;
    private static final long WORD_DAY = 0x646179L;
    private static final long WORD_TAKE = 0x74616b65L;
    private static final long WORD_SWIM = 0x7377696dL;
    private static final long WORD_SERVE = 0x7365727665L;
    private static final long WORD_PLAIN = 0x706c61696eL;
    private static final long WORD_WARY = 0x77617279L;
    private static final long WORD_BATHER = 0x626174686572L;
    private static final long WORD_DEWY = 0x64657779L;
    private static final long WORD_NOT = 0x6e6f74L;
    private static final long WORD_AND = 0x616e64L;
    private static final long WORD_OR = 0x6f72L;
    private static final long WORD_LEVEL = 0x6c6576656cL;
    private static final long WORD_FALLS = 0x66616c6c73L;
    private static final long WORD_WAYS = 0x77617973L;
    private static final long WORD_DATE = 0x64617465L;

    // The facts level, falls, ways, date are not among them: a NAME may be one.
    private static final long[] KEPT_WORDS = {
        WORD_PLACE, WORD_WATER, WORD_STREAM, WORD_PERSON, WORD_IN, WORD_OTTER, WORD_PACE, WORD_WRIT,
        WORD_FOR, WORD_BY, WORD_RAIN, WORD_WETS, WORD_DAY, WORD_TAKE, WORD_SWIM, WORD_SERVE,
        WORD_PLAIN, WORD_WARY, WORD_BATHER, WORD_DEWY, WORD_NOT, WORD_AND, WORD_OR,
    };

    // What a law's step is; a step of 0 or more is a NUMBER.
    private static final int STEP_LEVEL = -1;
    private static final int STEP_FALLS = -2;
    private static final int STEP_WAYS = -3;
    private static final int STEP_DATE = -4;
    private static final int STEP_NOT = -5;
    private static final int STEP_AND = -6;
    private static final int STEP_OR = -7;
    private static final int STEP_LESS = -8;
    private static final int STEP_SAME = -9;
    private static final int STEP_PLUS = -10;
    private static final int STEP_MINUS = -11;
    private static final int STEP_TIMES = -12;
    private static final int NO_STEP = -13;

    // Each of 5 nestings leaves at most four values waiting (of and/or, of < =, of + -, of *).
    private static final int MOST_WAITING = 32;

    private final Tape tape = new Tape();
    private County told = new County();
    private County spareCounty = new County();
    private Session lines = new Session();
    private Session spareLines = new Session();
    private final State now = new State();
    private final State trial = new State();
    private final Seen seen = new Seen();
    private final Outlook outlook = new Outlook();
    private final State[] past = new State[MOST_PAST];
    private final Mark[] marks = new Mark[MOST_MARKS];
    private final int[] tomorrow = new int[MOST_RAIN + 1];
    private int pastSize;
    private int pastNext;
    private long drawn;

    public OtterWrits() {
        for (int i = 0; i < MOST_PAST; i++) {
            past[i] = new State();
        }
        for (int i = 0; i < MOST_MARKS; i++) {
            marks[i] = new Mark();
        }
        now.begin(told);
    }

    // ---- the tape

    public int feed(long a, long b, long c) {
        tape.append(a);
        tape.append(b);
        tape.append(c);
        return tape.length;
    }

    public int county() {
        spareCounty.read(tape);
        int fault = tape.finish();
        if (fault == 0) {
            County old = told;
            told = spareCounty;
            spareCounty = old;
            startAnew();
        }
        return fault;
    }

    private void startAnew() {
        now.begin(told);
        lines.size = 0;
        seen.size = 0;
        for (int i = 0; i < MOST_MARKS; i++) {
            marks[i].laid = false;
        }
        forgetPast();
        outlook.forget();
    }

    public int session() {
        spareLines.read(tape, told);
        int fault = tape.finish();
        if (fault == 0) {
            Session old = lines;
            lines = spareLines;
            spareLines = old;
        }
        return fault;
    }

    // ---- how it is

    private boolean isPlace(int place) {
        return place >= 0 && place < told.places.size;
    }

    private boolean isPerson(int person) {
        return person >= 0 && person < told.persons.size;
    }

    private boolean isOtter(int otter) {
        return otter >= 0 && otter < told.otters.size;
    }

    private boolean isWrit(int writ) {
        return writ >= 0 && writ < told.writs.size;
    }

    private static boolean within(int value, int least, int most) {
        return value >= least && value <= most;
    }

    public int place(int place, int what) {
        if (!isPlace(place)) {
            return NONE;
        }
        switch (what) {
            case 0:
                return now.water[place];
            case 1:
                return told.links[place];
            case 2:
                return bitsOf(now.personAt, told.persons.size, place);
            case 3:
                return bitsOf(now.otterAt, told.otters.size, place);
            default:
                return NONE;
        }
    }

    /** Which of the first so many of a row have this value, as bits. */
    private static int bitsOf(int[] row, int size, int value) {
        int bits = 0;
        for (int i = 0; i < size && i < row.length; i++) {
            if (row[i] == value) {
                bits |= 1 << i;
            }
        }
        return bits;
    }

    public int person(int person, int what) {
        if (!isPerson(person)) {
            return NONE;
        }
        switch (what) {
            case 0:
                return told.kind[person];
            case 1:
                return now.personAt[person];
            default:
                return NONE;
        }
    }

    public int otter(int otter, int what) {
        if (!isOtter(otter)) {
            return NONE;
        }
        switch (what) {
            case 0:
                return told.pace[otter];
            case 1:
                return now.otterAt[otter];
            case 2:
                return now.swum[otter];
            case 3:
                return bitsOf(now.holder, told.writs.size, otter);
            default:
                return NONE;
        }
    }

    public int writ(int writ, int what) {
        if (!isWrit(writ)) {
            return OTHERS;
        }
        switch (what) {
            case 0:
                return told.whom[writ];
            case 1:
                return told.dueBy[writ];
            case 2:
                return now.holder[writ];
            default:
                return OTHERS;
        }
    }

    public int count(int what) {
        switch (what) {
            case 0:
                return told.places.size;
            case 1:
                return told.streams;
            case 2:
                return told.persons.size;
            case 3:
                return told.otters.size;
            case 4:
                return told.writs.size;
            case 5:
                return now.day;
            case 6:
                return told.rainOf(now.day);
            case 7:
                return now.wetBits(told);
            case 8:
                return bitsOf(now.holder, told.writs.size, SERVED);
            case 9:
                return lines.size;
            case 10:
                return seen.size;
            case 11:
                return pastSize;
            case 12:
                return tape.length;
            default:
                return NONE;
        }
    }

    // ---- by hand

    public boolean take(int otter, int writ) {
        if (!now.mayTake(told, otter, writ)) {
            return false;
        }
        keepPast();
        now.holder[writ] = otter;
        return true;
    }

    public int swim(int otter, int place) {
        if (!now.maySwim(told, otter, place)) {
            return NONE;
        }
        keepPast();
        now.doSwim(otter, place);
        return now.swum[otter];
    }

    public int serve(int writ) {
        if (!now.mayServe(told, writ)) {
            return NONE;
        }
        keepPast();
        int otter = now.holder[writ];
        now.holder[writ] = SERVED;
        return otter;
    }

    public int day() {
        keepPast();
        now.nextDay(told);
        outlook.forget();
        return now.wetBits(told);
    }

    public boolean undo() {
        if (pastSize == 0) {
            return false;
        }
        pastSize--;
        pastNext = (pastNext + MOST_PAST - 1) % MOST_PAST;
        now.copy(past[pastNext]);
        outlook.forget();
        return true;
    }

    private void keepPast() {
        past[pastNext].copy(now);
        pastNext = (pastNext + 1) % MOST_PAST;
        pastSize = Math.min(pastSize + 1, MOST_PAST);
    }

    private void forgetPast() {
        pastSize = 0;
        pastNext = 0;
    }

    public boolean mark(int mark, boolean back) {
        if (!within(mark, 0, MOST_MARKS - 1)) {
            return false;
        }
        Mark held = marks[mark];
        if (!back) {
            held.lay(now, lines, seen);
            return true;
        }
        if (!held.laid) {
            return false;
        }
        now.copy(held.state);
        lines.copy(held.lines);
        seen.copy(held.seen);
        forgetPast();
        outlook.forget();
        return true;
    }

    // ---- the session, judged

    public int judged(int what) {
        if (!within(what, 0, 2)) {
            return OTHERS;
        }
        int refused = NONE;
        int serving = NONE;
        int servings = 0;
        trial.begin(told);
        for (int i = 0; i < lines.size; i++) {
            boolean done = trial.doLine(told, lines.what[i], lines.first[i], lines.second[i]);
            if (!done && refused == NONE) {
                refused = i;
            }
            if (done && lines.what[i] == LINE_SERVE) {
                servings++;
                serving = serving == NONE ? i : serving;
            }
        }
        return what == 0 ? refused : what == 1 ? serving : servings;
    }

    // ---- days going by

    public int later(int place, int days) {
        if (!isPlace(place) || !within(days, 0, LAST_DAY)) {
            return NONE;
        }
        outlook.foretell(told, now, days);
        return outlook.waterOn(days, place);
    }

    public int where(int person, int days) {
        if (!isPerson(person) || !within(days, 0, LAST_DAY)) {
            return NONE;
        }
        outlook.foretell(told, now, days);
        return outlook.placeOn(days, person);
    }

    public int dry(int place) {
        return isPlace(place) ? firstDay(1 << place, 0) : NONE;
    }

    public int wet(int place) {
        return isPlace(place) ? firstDay(1 << place, 1 << place) : NONE;
    }

    public int flood() {
        return firstDay(told.allPlaces(), told.allPlaces());
    }

    /** Behind how many days just these of some places are wet. */
    private int firstDay(int places, int wanted) {
        for (int d = 0; d <= LAST_DAY; d++) {
            outlook.foretell(told, now, d);
            if ((outlook.wetOn(d) & places) == wanted) {
                return d;
            }
        }
        return NONE;
    }

    public int crest(int place) {
        if (!isPlace(place)) {
            return NONE;
        }
        outlook.foretell(told, now, LAST_DAY);
        int best = 0;
        for (int d = 1; d <= LAST_DAY; d++) {
            if (outlook.waterOn(d, place) > outlook.waterOn(best, place)) {
                best = d;
            }
        }
        return best;
    }

    public int safe(int person, int days) {
        if (!isPerson(person) || !within(days, 1, LAST_DAY)) {
            return NONE;
        }
        outlook.foretell(told, now, days);
        int bits = 0;
        for (int p = 0; p < told.places.size; p++) {
            if (isSafe(told.kind[person], p, days)) {
                bits |= 1 << p;
            }
        }
        return bits;
    }

    private boolean isSafe(int kind, int place, int days) {
        for (int d = 0; d <= days; d++) {
            if (State.isServable(kind, outlook.waterOn(d, place))) {
                return false;
            }
        }
        return true;
    }

    // ---- how soon

    public int soon(int otter, int place) {
        if (!isOtter(otter) || !isPlace(place)) {
            return NONE;
        }
        outlook.foretell(told, now, LAST_DAY);
        return outlook.daysToPlace(told, now, otter, place);
    }

    public int serves(int writ, int otter) {
        if (!isWrit(writ) || !isOtter(otter)) {
            return NONE;
        }
        outlook.foretell(told, now, LAST_DAY);
        return outlook.daysToServe(told, now, writ, otter);
    }

    public int intime(int writ) {
        if (!isWrit(writ)) {
            return NONE;
        }
        outlook.foretell(told, now, LAST_DAY);
        int bits = 0;
        for (int o = 0; o < told.otters.size; o++) {
            int days = outlook.daysToServe(told, now, writ, o);
            if (days != NONE && now.day + days <= told.dueBy[writ]) {
                bits |= 1 << o;
            }
        }
        return bits;
    }

    public int share(int what) {
        if (!within(what, OTHERS, told.otters.size - 1)) {
            return NO_SHARE;
        }
        outlook.foretell(told, now, LAST_DAY);
        outlook.allot(told, now);
        if (what == NONE) {
            return outlook.allotted;
        }
        return what == OTHERS ? outlook.allottedDays : outlook.allotment[what];
    }

    // ---- now

    public int late() {
        int bits = 0;
        for (int w = 0; w < told.writs.size; w++) {
            if (now.holder[w] != SERVED && now.day > told.dueBy[w]) {
                bits |= 1 << w;
            }
        }
        return bits;
    }

    public boolean may(int writ) {
        return now.mayServe(told, writ);
    }

    public int can(int otter) {
        if (!isOtter(otter)) {
            return NONE;
        }
        int bits = 0;
        for (int p = 0; p < told.places.size; p++) {
            if (now.maySwim(told, otter, p)) {
                bits |= 1 << p;
            }
        }
        return bits;
    }

    public int warm() {
        int best = NONE;
        int most = 0;
        for (int p = 0; p < told.places.size; p++) {
            int here = Integer.bitCount(bitsOf(now.personAt, told.persons.size, p));
            if (here > most) {
                most = here;
                best = p;
            }
        }
        return best;
    }

    public int hunted() {
        int best = NONE;
        int most = 0;
        int open = told.allWrits() & ~bitsOf(now.holder, told.writs.size, SERVED);
        for (int q = 0; q < told.persons.size; q++) {
            int writs = Integer.bitCount(open & bitsOf(told.whom, told.writs.size, q));
            if (writs > most) {
                most = writs;
                best = q;
            }
        }
        return best;
    }

    // ---- what hangs together

    public int reach(int place) {
        return isPlace(place) ? told.spreadAll(1 << place, told.allPlaces()) : NONE;
    }

    public int pool(int place) {
        return isPlace(place) ? poolOf(place, now.wetBits(told)) : NONE;
    }

    private int poolOf(int place, int wetBits) {
        int start = wetBits & 1 << place;
        return start == 0 ? 0 : told.spreadAll(start, wetBits);
    }

    public int far(int place, int other) {
        if (!isPlace(place) || !isPlace(other)) {
            return NONE;
        }
        int here = 1 << place;
        for (int steps = 0; steps < MOST_PLACES; steps++) {
            if ((here >> other & 1) != 0) {
                return steps;
            }
            here = told.spread(here, told.allPlaces());
        }
        return NONE;
    }

    public int pools() {
        int wetBits = now.wetBits(told);
        int found = 0;
        int counted = 0;
        for (int p = 0; p < told.places.size; p++) {
            if ((wetBits & ~found & 1 << p) != 0) {
                found |= poolOf(p, wetBits);
                counted++;
            }
        }
        return counted;
    }

    public int bridges() {
        int counted = 0;
        for (int p = 0; p < told.places.size; p++) {
            for (int q = p + 1; q < told.places.size; q++) {
                if (told.isLinked(p, q) && isBridge(p, q)) {
                    counted++;
                }
            }
        }
        return counted;
    }

    private boolean isBridge(int one, int other) {
        told.flipLink(one, other);
        int left = told.spreadAll(1 << one, told.allPlaces());
        told.flipLink(one, other);
        return (left >> other & 1) == 0;
    }

    // ---- an unknown rain

    public boolean see(int place, int water, boolean more) {
        if (!isPlace(place) || !within(water, 0, MOST_WATER)) {
            return false;
        }
        return seen.put(place, water, more);
    }

    public int rains() {
        int bits = 0;
        for (int r = 0; r <= MOST_RAIN; r++) {
            if (isAsSeen(r)) {
                bits |= 1 << r;
            }
        }
        return bits;
    }

    private boolean isAsSeen(int rain) {
        for (int i = 0; i < seen.size; i++) {
            int place = seen.place[i];
            int water = told.waterBehind(place, now.water[place], rain, now.day);
            if ((water >= seen.water[i]) != seen.more[i]) {
                return false;
            }
        }
        return true;
    }

    public int look() {
        int rainBits = rains();
        int all = Integer.bitCount(rainBits);
        int least = all;
        int best = NONE;
        for (int p = 0; p < told.places.size; p++) {
            fillTomorrow(p);
            for (int much = 1; much <= MOST_WATER; much++) {
                int more = rainsWithSoMuch(much, rainBits);
                int greater = Math.max(more, all - more);
                if (greater < least) {
                    least = greater;
                    best = 10 * p + much;
                }
            }
        }
        return best;
    }

    private void fillTomorrow(int place) {
        for (int r = 0; r <= MOST_RAIN; r++) {
            tomorrow[r] = told.waterBehind(place, now.water[place], r, now.day);
        }
    }

    /** By how many of these rains there is so much water tomorrow, or more. */
    private int rainsWithSoMuch(int much, int rainBits) {
        int counted = 0;
        for (int r = 0; r <= MOST_RAIN; r++) {
            if ((rainBits >> r & 1) != 0 && tomorrow[r] >= much) {
                counted++;
            }
        }
        return counted;
    }

    public int chance(int place, int days, int odds) {
        if (!isPlace(place) || !within(days, 1, 6) || !within(odds, 0, 10)) {
            return NONE;
        }
        int millionths = weighWet(told, place, now.water[place], now.day, days, odds);
        for (int d = days; d < 6; d++) {
            millionths *= 10;
        }
        return millionths;
    }

    /** Of ten to the power of the days left (6 at most), how many go to its being wet behind them. */
    private static int weighWet(County county, int place, int level, int date, int days, int odds) {
        if (days <= 0) {
            return level >= 1 ? 1 : 0;
        }
        int rainy = county.waterBehind(place, level, MOST_RAIN, date);
        int clear = county.waterBehind(place, level, 0, date);
        return odds * weighWet(county, place, rainy, date + 1, days - 1, odds)
                + (10 - odds) * weighWet(county, place, clear, date + 1, days - 1, odds);
    }

    // ---- an answer at rest

    public int rests(int both, int loses, int gets, int what) throws NoSuchElementException {
        if (!within(both, 0, 9) || !within(loses, 0, 9) || !within(gets, 0, 9) || what < NONE) {
            throw new NoSuchElementException("others");
        }
        int found = 0;
        for (int choice = 0; choice < 4; choice++) {
            if (isRest(both, loses, gets, choice)) {
                if (found == what) {
                    return choice;
                }
                found++;
            }
        }
        if (what != NONE) {
            throw new NoSuchElementException("none such");
        }
        return found;
    }

    private static boolean isRest(int both, int loses, int gets, int choice) {
        int one = choice / 2;
        int other = choice % 2;
        return pay(both, loses, gets, one, other) >= pay(both, loses, gets, 1 - one, other)
                && pay(both, loses, gets, other, one) >= pay(both, loses, gets, 1 - other, one);
    }

    private static int pay(int both, int loses, int gets, int mine, int his) {
        if (mine == 1) {
            return his == 1 ? both : -loses;
        }
        return his == 1 ? gets : 0;
    }

    // ---- sessions by draws

    public int sessions(int seed, int days, int what) {
        if (!within(seed, 0, 9999) || !within(days, 1, 99) || !within(what, 0, 2)) {
            return NONE;
        }
        trial.copy(now);
        drawn = seed;
        int servings = 0;
        for (int d = 0; d < days; d++) {
            if (told.otters.size > 0 && doDrawn()) {
                servings++;
            }
            trial.nextDay(told);
        }
        if (what == 0) {
            return servings;
        }
        return what == 1 ? trial.waterTogether(told) : bitsOf(trial.personAt, told.persons.size, ASSIZE);
    }

    /** What is drawn for one day is done, if it can be; true if a writ is served by it. */
    private boolean doDrawn() {
        int otter = draw(told.otters.size);
        int place = draw(told.places.size);
        int choice = draw(5);
        if (choice < 3) {
            trial.doLine(told, LINE_SWIM, otter, place);
            return false;
        }
        if (told.writs.size == 0) {
            return false;
        }
        int writ = draw(told.writs.size);
        if (choice == 3) {
            trial.doLine(told, LINE_TAKE, otter, writ);
            return false;
        }
        return trial.doLine(told, LINE_SERVE, writ, NONE);
    }

    private int draw(int below) {
        drawn = (drawn * 1103515245L + 12345L) % 2147483648L;
        return below > 0 ? (int) (drawn / 65536L % below) : 0;
    }

    // ---- the classes inside

    /** The signs that were fed, and the token at which their reader stands. */
    private static final class Tape {
        final byte[] signs = new byte[MOST_SIGNS];
        int length;
        int next;
        int start;
        int token;
        long value;
        int fault;

        void append(long bytes) {
            for (int shift = 56; shift >= 0; shift -= 8) {
                int sign = (int) (bytes >>> shift & 255L);
                if ((sign == 10 || within(sign, 32, 126)) && length < MOST_SIGNS) {
                    signs[length] = (byte) sign;
                    length++;
                }
            }
        }

        void begin() {
            next = 0;
            fault = 0;
            step();
        }

        /** The tape is empty behind its reader; the reader's fault, or 0. */
        int finish() {
            length = 0;
            return fault;
        }

        boolean isFine() {
            return fault == 0;
        }

        void fail(int kind) {
            failAt(kind, start);
        }

        void failAt(int kind, int at) {
            if (fault == 0) {
                fault = kind + 16 * at;
            }
        }

        void step() {
            while (next < length && (signs[next] == 10 || signs[next] == 32)) {
                next++;
            }
            start = next;
            value = 0;
            if (next >= length) {
                token = TOKEN_END;
            } else if (signs[next] >= 'a' && signs[next] <= 'z') {
                readWord();
            } else if (signs[next] >= '0' && signs[next] <= '9') {
                readNumber();
            } else {
                value = signs[next];
                token = isSign(signs[next]) ? TOKEN_SIGN : TOKEN_NONE;
                next++;
            }
        }

        private void readWord() {
            while (next < length && signs[next] >= 'a' && signs[next] <= 'z') {
                value = value << 8 | signs[next];
                next++;
            }
            token = next - start <= 8 ? TOKEN_WORD : TOKEN_NONE;
        }

        private void readNumber() {
            while (next < length && signs[next] >= '0' && signs[next] <= '9') {
                value = value * 10 + (signs[next] - '0');
                next++;
            }
            token = next - start <= 4 ? TOKEN_NUMBER : TOKEN_NONE;
        }

        private static boolean isSign(int sign) {
            return sign == '(' || sign == ')' || sign == '<' || sign == '=' || sign == '+' || sign == '-'
                    || sign == '*' || sign == ';';
        }

        boolean atWord(long word) {
            return fault == 0 && token == TOKEN_WORD && value == word;
        }

        boolean atSign(char sign) {
            return fault == 0 && token == TOKEN_SIGN && value == sign;
        }

        boolean atNumber() {
            return fault == 0 && token == TOKEN_NUMBER;
        }

        /** Whether the reader stands at a NAME; it is a fault if not. */
        boolean atName() {
            if (fault != 0) {
                return false;
            }
            if (token != TOKEN_WORD || isKept(value)) {
                fail(FAULT_FORM);
                return false;
            }
            return true;
        }

        private static boolean isKept(long word) {
            for (int i = 0; i < KEPT_WORDS.length; i++) {
                if (KEPT_WORDS[i] == word) {
                    return true;
                }
            }
            return false;
        }

        void passWord(long word) {
            if (atWord(word)) {
                step();
            } else {
                fail(FAULT_FORM);
            }
        }

        void passSign(char sign) {
            if (atSign(sign)) {
                step();
            } else {
                fail(FAULT_FORM);
            }
        }

        int passNumber(int least, int most) {
            if (!atNumber()) {
                fail(FAULT_FORM);
                return least;
            }
            if (value < least || value > most) {
                fail(FAULT_NUMBER);
                return least;
            }
            int number = (int) value;
            step();
            return number;
        }

        /** The number of the one whose NAME is here; NONE with a fault. */
        int passTold(Names names) {
            if (!atName()) {
                return NONE;
            }
            int number = names.find(value);
            if (number == NONE) {
                fail(FAULT_UNTOLD);
                return NONE;
            }
            step();
            return number;
        }
    }

    /** The NAMES of those of one sort, numbered as told. */
    private static final class Names {
        final long[] words;
        int size;

        Names(int most) {
            words = new long[most < 0 ? 0 : most];
        }

        int find(long word) {
            for (int i = 0; i < size; i++) {
                if (words[i] == word) {
                    return i;
                }
            }
            return NONE;
        }

        /** The number of a new one. */
        int put(long word) {
            if (size >= words.length) {
                return NONE;
            }
            words[size] = word;
            size++;
            return size - 1;
        }

        boolean isFull() {
            return size >= words.length;
        }
    }

    /** The E of wets, as steps on a stack, each operator behind what it joins. */
    private static final class Law {
        final int[] steps = new int[MOST_SIGNS];
        final int[] stack = new int[MOST_WAITING];
        int size;

        private void put(int step) {
            if (size < MOST_SIGNS) {
                steps[size] = step;
                size++;
            }
        }

        private void readExpression(Tape tape, int depth) {
            readTest(tape, depth);
            for (int i = 0; i < MOST_SIGNS && (tape.atWord(WORD_AND) || tape.atWord(WORD_OR)); i++) {
                int step = tape.atWord(WORD_AND) ? STEP_AND : STEP_OR;
                tape.step();
                readTest(tape, depth);
                put(step);
            }
        }

        private void readTest(Tape tape, int depth) {
            readSum(tape, depth);
            if (tape.atSign('<') || tape.atSign('=')) {
                int step = tape.atSign('<') ? STEP_LESS : STEP_SAME;
                tape.step();
                readSum(tape, depth);
                put(step);
            }
        }

        private void readSum(Tape tape, int depth) {
            readProduct(tape, depth);
            for (int i = 0; i < MOST_SIGNS && (tape.atSign('+') || tape.atSign('-')); i++) {
                int step = tape.atSign('+') ? STEP_PLUS : STEP_MINUS;
                tape.step();
                readProduct(tape, depth);
                put(step);
            }
        }

        private void readProduct(Tape tape, int depth) {
            readPart(tape, depth);
            for (int i = 0; i < MOST_SIGNS && tape.atSign('*'); i++) {
                tape.step();
                readPart(tape, depth);
                put(STEP_TIMES);
            }
        }

        private void readPart(Tape tape, int depth) {
            boolean isNot = tape.atWord(WORD_NOT);
            boolean isOpen = tape.atSign('(');
            int simple = simpleStep(tape);
            if (!isNot && !isOpen && simple == NO_STEP) {
                tape.fail(FAULT_FORM);
                return;
            }
            if (depth >= MOST_NESTED) {
                tape.fail(FAULT_MANY);
                return;
            }
            tape.step();
            if (isNot) {
                readPart(tape, depth + 1);
                put(STEP_NOT);
            } else if (isOpen) {
                readExpression(tape, depth + 1);
                tape.passSign(')');
            } else {
                put(simple);
            }
        }

        private static int simpleStep(Tape tape) {
            if (tape.atNumber()) {
                return (int) tape.value;
            }
            if (tape.atWord(WORD_LEVEL)) {
                return STEP_LEVEL;
            }
            if (tape.atWord(WORD_FALLS)) {
                return STEP_FALLS;
            }
            if (tape.atWord(WORD_WAYS)) {
                return STEP_WAYS;
            }
            return tape.atWord(WORD_DATE) ? STEP_DATE : NO_STEP;
        }

        int tells(int level, int falls, int ways, int date) {
            if (size == 0) {
                return level + falls - 1;
            }
            int top = 0;
            for (int i = 0; i < size; i++) {
                int step = steps[i];
                if (step > STEP_NOT) {
                    if (top < MOST_WAITING) {
                        stack[top] = simple(step, level, falls, ways, date);
                        top++;
                    }
                } else if (step == STEP_NOT) {
                    if (top >= 1) {
                        stack[top - 1] = stack[top - 1] == 0 ? 1 : 0;
                    }
                } else if (top >= 2) {
                    top--;
                    stack[top - 1] = join(step, stack[top - 1], stack[top]);
                }
            }
            return stack[0];
        }

        private static int simple(int step, int level, int falls, int ways, int date) {
            switch (step) {
                case STEP_LEVEL:
                    return level;
                case STEP_FALLS:
                    return falls;
                case STEP_WAYS:
                    return ways;
                case STEP_DATE:
                    return date;
                default:
                    return step;
            }
        }

        private static int join(int step, int left, int right) {
            switch (step) {
                case STEP_AND:
                    return left != 0 && right != 0 ? 1 : 0;
                case STEP_OR:
                    return left != 0 || right != 0 ? 1 : 0;
                case STEP_LESS:
                    return left < right ? 1 : 0;
                case STEP_SAME:
                    return left == right ? 1 : 0;
                case STEP_PLUS:
                    return left + right;
                case STEP_MINUS:
                    return left - right;
                default:
                    return left * right;
            }
        }
    }

    /** What is told of a county; it does not change by days. */
    private static final class County {
        final Names places = new Names(MOST_PLACES);
        final Names persons = new Names(MOST_PERSONS);
        final Names otters = new Names(MOST_OTTERS);
        final Names writs = new Names(MOST_WRITS);
        final int[] water = new int[MOST_PLACES];
        final int[] links = new int[MOST_PLACES];
        final int[] kind = new int[MOST_PERSONS];
        final int[] home = new int[MOST_PERSONS];
        final int[] holt = new int[MOST_OTTERS];
        final int[] pace = new int[MOST_OTTERS];
        final int[] whom = new int[MOST_WRITS];
        final int[] dueBy = new int[MOST_WRITS];
        final int[] rain = new int[MOST_RAINS];
        final Law law = new Law();
        int rainSize;
        int streams;

        void read(Tape tape) {
            clear();
            tape.begin();
            for (int i = 0; i < MOST_SIGNS && tape.isFine() && tape.token != TOKEN_END; i++) {
                readStatement(tape);
            }
        }

        private void clear() {
            places.size = 0;
            persons.size = 0;
            otters.size = 0;
            writs.size = 0;
            rainSize = 0;
            streams = 0;
            law.size = 0;
        }

        private void readStatement(Tape tape) {
            if (tape.atWord(WORD_PLACE)) {
                readPlace(tape);
            } else if (tape.atWord(WORD_STREAM)) {
                readStream(tape);
            } else if (tape.atWord(WORD_PERSON)) {
                readPerson(tape);
            } else if (tape.atWord(WORD_OTTER)) {
                readOtter(tape);
            } else if (tape.atWord(WORD_WRIT)) {
                readWrit(tape);
            } else if (tape.atWord(WORD_RAIN)) {
                readRain(tape);
            } else if (tape.atWord(WORD_WETS)) {
                readWets(tape);
            } else {
                tape.fail(FAULT_FORM);
            }
        }

        /** The first word of a statement is passed, if there is room for one more. */
        private static void passFirst(Tape tape, boolean full) {
            if (full) {
                tape.fail(FAULT_MANY);
            } else {
                tape.step();
            }
        }

        private long passNewName(Tape tape) {
            if (!tape.atName()) {
                return 0;
            }
            long word = tape.value;
            if (isTold(word)) {
                tape.fail(FAULT_AGAIN);
            } else {
                tape.step();
            }
            return word;
        }

        private boolean isTold(long word) {
            return places.find(word) != NONE || persons.find(word) != NONE
                    || otters.find(word) != NONE || writs.find(word) != NONE;
        }

        private void readPlace(Tape tape) {
            passFirst(tape, places.isFull());
            long name = passNewName(tape);
            tape.passWord(WORD_WATER);
            int much = tape.passNumber(0, MOST_WATER);
            tape.passSign(';');
            int number = tape.isFine() ? places.put(name) : NONE;
            if (number != NONE) {
                water[number] = much;
                links[number] = 0;
            }
        }

        private void readStream(Tape tape) {
            passFirst(tape, streams >= MOST_STREAMS);
            int one = tape.passTold(places);
            int at = tape.start;
            int other = tape.passTold(places);
            if (tape.isFine() && (one == other || isLinked(one, other))) {
                tape.failAt(FAULT_AGAIN, at);
            }
            tape.passSign(';');
            if (tape.isFine()) {
                flipLink(one, other);
                streams++;
            }
        }

        private void readPerson(Tape tape) {
            passFirst(tape, persons.isFull());
            long name = passNewName(tape);
            int sort = passKind(tape);
            tape.passWord(WORD_IN);
            int place = tape.passTold(places);
            tape.passSign(';');
            int number = tape.isFine() ? persons.put(name) : NONE;
            if (number != NONE) {
                kind[number] = sort;
                home[number] = place;
            }
        }

        private static int passKind(Tape tape) {
            int sort = NONE;
            if (tape.atWord(WORD_PLAIN)) {
                sort = 0;
            } else if (tape.atWord(WORD_WARY)) {
                sort = WARY;
            } else if (tape.atWord(WORD_BATHER)) {
                sort = BATHER;
            } else if (tape.atWord(WORD_DEWY)) {
                sort = DEWY;
            }
            if (sort == NONE) {
                tape.fail(FAULT_FORM);
            } else {
                tape.step();
            }
            return sort;
        }

        private void readOtter(Tape tape) {
            passFirst(tape, otters.isFull());
            long name = passNewName(tape);
            tape.passWord(WORD_IN);
            int place = tape.passTold(places);
            tape.passWord(WORD_PACE);
            int speed = tape.passNumber(1, 3);
            tape.passSign(';');
            int number = tape.isFine() ? otters.put(name) : NONE;
            if (number != NONE) {
                holt[number] = place;
                pace[number] = speed;
            }
        }

        private void readWrit(Tape tape) {
            passFirst(tape, writs.isFull());
            long name = passNewName(tape);
            tape.passWord(WORD_FOR);
            int person = tape.passTold(persons);
            tape.passWord(WORD_BY);
            int last = tape.passNumber(0, LAST_DAY);
            tape.passSign(';');
            int number = tape.isFine() ? writs.put(name) : NONE;
            if (number != NONE) {
                whom[number] = person;
                dueBy[number] = last;
            }
        }

        private void readRain(Tape tape) {
            if (rainSize > 0) {
                tape.fail(FAULT_AGAIN);
                return;
            }
            tape.step();
            rain[0] = tape.passNumber(0, MOST_RAIN);
            rainSize = 1;
            // One more than can be, so that a thirteenth is met as a fault.
            for (int i = 1; i <= MOST_RAINS && tape.atNumber(); i++) {
                readMoreRain(tape);
            }
            tape.passSign(';');
        }

        private void readMoreRain(Tape tape) {
            int at = tape.start;
            int much = tape.passNumber(0, MOST_RAIN);
            if (!tape.isFine()) {
                return;
            }
            if (rainSize >= MOST_RAINS) {
                tape.failAt(FAULT_MANY, at);
            } else {
                rain[rainSize] = much;
                rainSize++;
            }
        }

        private void readWets(Tape tape) {
            if (law.size > 0) {
                tape.fail(FAULT_AGAIN);
                return;
            }
            tape.step();
            law.readExpression(tape, 0);
            tape.passSign(';');
        }

        int allPlaces() {
            return (1 << places.size) - 1;
        }

        int allWrits() {
            return (1 << writs.size) - 1;
        }

        boolean isLinked(int one, int other) {
            return (links[one] >> other & 1) != 0;
        }

        void flipLink(int one, int other) {
            links[one] ^= 1 << other;
            links[other] ^= 1 << one;
        }

        int rainOf(int day) {
            return rainSize > 0 ? rain[Math.floorMod(day, rainSize)] : 1;
        }

        /** The water that a place has behind a day. */
        int waterBehind(int place, int level, int falls, int date) {
            int much = law.tells(level, falls, Integer.bitCount(links[place]), date);
            return Math.max(0, Math.min(MOST_WATER, much));
        }

        /** These places, and those to which one stream leads from them, both ends being among the open ones. */
        int spread(int from, int open) {
            int to = from;
            for (int p = 0; p < places.size; p++) {
                if ((from & open & 1 << p) != 0) {
                    to |= links[p] & open;
                }
            }
            return to;
        }

        int spreadAll(int from, int open) {
            int to = from;
            for (int i = 0; i < MOST_PLACES; i++) {
                to = spread(to, open);
            }
            return to;
        }
    }

    /** How it is on a day: what changes by taking, swimming, serving, days. */
    private static final class State {
        final int[] water = new int[MOST_PLACES];
        final int[] personAt = new int[MOST_PERSONS];
        final int[] otterAt = new int[MOST_OTTERS];
        final int[] swum = new int[MOST_OTTERS];
        final int[] holder = new int[MOST_WRITS];
        int day;

        void begin(County county) {
            System.arraycopy(county.water, 0, water, 0, MOST_PLACES);
            System.arraycopy(county.home, 0, personAt, 0, MOST_PERSONS);
            System.arraycopy(county.holt, 0, otterAt, 0, MOST_OTTERS);
            rest();
            for (int w = 0; w < MOST_WRITS; w++) {
                holder[w] = NONE;
            }
            day = 0;
        }

        void copy(State other) {
            System.arraycopy(other.water, 0, water, 0, MOST_PLACES);
            System.arraycopy(other.personAt, 0, personAt, 0, MOST_PERSONS);
            System.arraycopy(other.otterAt, 0, otterAt, 0, MOST_OTTERS);
            System.arraycopy(other.swum, 0, swum, 0, MOST_OTTERS);
            System.arraycopy(other.holder, 0, holder, 0, MOST_WRITS);
            day = other.day;
        }

        private void rest() {
            for (int o = 0; o < MOST_OTTERS; o++) {
                swum[o] = 0;
            }
        }

        static boolean isServable(int kind, int water) {
            return kind == DEWY || water >= (kind == WARY ? 3 : 1);
        }

        boolean mayTake(County county, int otter, int writ) {
            return within(otter, 0, county.otters.size - 1) && within(writ, 0, county.writs.size - 1)
                    && otterAt[otter] == ASSIZE && holder[writ] == NONE
                    && Integer.bitCount(bitsOf(holder, county.writs.size, otter)) < MOST_CARRIED;
        }

        boolean maySwim(County county, int otter, int place) {
            if (!within(otter, 0, county.otters.size - 1) || !within(place, 0, county.places.size - 1)) {
                return false;
            }
            int from = otterAt[otter];
            return county.isLinked(from, place) && water[from] >= 1 && water[place] >= 1
                    && swum[otter] < county.pace[otter];
        }

        boolean mayServe(County county, int writ) {
            if (!within(writ, 0, county.writs.size - 1) || !within(holder[writ], 0, county.otters.size - 1)
                    || holder[writ] == SERVED) {
                return false;
            }
            int person = county.whom[writ];
            int place = personAt[person];
            return otterAt[holder[writ]] == place && isServable(county.kind[person], water[place]);
        }

        void doSwim(int otter, int place) {
            otterAt[otter] = place;
            swum[otter]++;
        }

        /** A line of a session is done; false: it can't be, all stays. */
        boolean doLine(County county, int what, int first, int second) {
            switch (what) {
                case LINE_TAKE:
                    if (!mayTake(county, first, second)) {
                        return false;
                    }
                    holder[second] = first;
                    return true;
                case LINE_SWIM:
                    if (!maySwim(county, first, second)) {
                        return false;
                    }
                    doSwim(first, second);
                    return true;
                case LINE_SERVE:
                    if (!mayServe(county, first)) {
                        return false;
                    }
                    holder[first] = SERVED;
                    return true;
                default:
                    nextDay(county);
                    return true;
            }
        }

        void nextDay(County county) {
            int falls = county.rainOf(day);
            for (int p = 0; p < county.places.size; p++) {
                water[p] = county.waterBehind(p, water[p], falls, day);
            }
            for (int q = 0; q < county.persons.size; q++) {
                if (county.kind[q] == WARY) {
                    personAt[q] = bestPlace(county, personAt[q], -1);
                } else if (county.kind[q] == BATHER) {
                    personAt[q] = bestPlace(county, personAt[q], 1);
                }
            }
            rest();
            day++;
        }

        /** Where one goes who likes water (1), or does not (-1). */
        private int bestPlace(County county, int from, int liking) {
            int best = from;
            for (int p = 0; p < county.places.size; p++) {
                if (county.isLinked(from, p) && liking * water[p] > liking * water[best]) {
                    best = p;
                }
            }
            return best;
        }

        int wetBits(County county) {
            int bits = 0;
            for (int p = 0; p < county.places.size; p++) {
                if (water[p] >= 1) {
                    bits |= 1 << p;
                }
            }
            return bits;
        }

        int waterTogether(County county) {
            int sum = 0;
            for (int p = 0; p < county.places.size; p++) {
                sum += water[p];
            }
            return sum;
        }
    }

    /** The lines of a session, by the numbers of those whom they name. */
    private static final class Session {
        final int[] what = new int[MOST_LINES];
        final int[] first = new int[MOST_LINES];
        final int[] second = new int[MOST_LINES];
        int size;

        void copy(Session other) {
            System.arraycopy(other.what, 0, what, 0, MOST_LINES);
            System.arraycopy(other.first, 0, first, 0, MOST_LINES);
            System.arraycopy(other.second, 0, second, 0, MOST_LINES);
            size = other.size;
        }

        void read(Tape tape, County county) {
            size = 0;
            tape.begin();
            for (int i = 0; i < MOST_SIGNS && tape.isFine() && tape.token != TOKEN_END; i++) {
                readLine(tape, county);
            }
        }

        private void readLine(Tape tape, County county) {
            int sort = sortOf(tape);
            if (sort == NONE) {
                tape.fail(FAULT_FORM);
                return;
            }
            if (size >= MOST_LINES) {
                tape.fail(FAULT_MANY);
                return;
            }
            tape.step();
            what[size] = sort;
            first[size] = NONE;
            second[size] = NONE;
            if (sort == LINE_SERVE) {
                first[size] = tape.passTold(county.writs);
            } else if (sort != LINE_DAY) {
                first[size] = tape.passTold(county.otters);
                second[size] = tape.passTold(sort == LINE_TAKE ? county.writs : county.places);
            }
            tape.passSign(';');
            size++;
        }

        private static int sortOf(Tape tape) {
            if (tape.atWord(WORD_DAY)) {
                return LINE_DAY;
            }
            if (tape.atWord(WORD_TAKE)) {
                return LINE_TAKE;
            }
            if (tape.atWord(WORD_SWIM)) {
                return LINE_SWIM;
            }
            return tape.atWord(WORD_SERVE) ? LINE_SERVE : NONE;
        }
    }

    /** What is seen of tomorrow's water. */
    private static final class Seen {
        final int[] place = new int[MOST_SEEN];
        final int[] water = new int[MOST_SEEN];
        final boolean[] more = new boolean[MOST_SEEN];
        int size;

        boolean put(int where, int much, boolean orMore) {
            if (size >= MOST_SEEN) {
                return false;
            }
            place[size] = where;
            water[size] = much;
            more[size] = orMore;
            size++;
            return true;
        }

        void copy(Seen other) {
            for (int i = 0; i < MOST_SEEN; i++) {
                place[i] = other.place[i];
                water[i] = other.water[i];
                more[i] = other.more[i];
            }
            size = other.size;
        }
    }

    /** What a mark holds. */
    private static final class Mark {
        final State state = new State();
        final Session lines = new Session();
        final Seen seen = new Seen();
        boolean laid;

        void lay(State now, Session nowLines, Seen nowSeen) {
            state.copy(now);
            lines.copy(nowLines);
            seen.copy(nowSeen);
            laid = true;
        }
    }

    /** The days ahead, nothing else being done; kept until the day is another one. */
    private static final class Outlook {
        final State ahead = new State();
        final int[] water = new int[(LAST_DAY + 1) * MOST_PLACES];
        final int[] places = new int[(LAST_DAY + 1) * MOST_PERSONS];
        final int[] wetness = new int[LAST_DAY + 1];
        final int[] serveDays = new int[MOST_OTTERS * MOST_WRITS];
        final int[] allotment = new int[MOST_OTTERS];
        int known;
        int allotted;
        int allottedDays;

        void forget() {
            known = 0;
        }

        /** So many days are known then; what is known already is not told again. */
        void foretell(County county, State now, int days) {
            for (int d = known; d <= days && d <= LAST_DAY; d++) {
                if (d == 0) {
                    ahead.copy(now);
                } else {
                    ahead.nextDay(county);
                }
                System.arraycopy(ahead.water, 0, water, d * MOST_PLACES, MOST_PLACES);
                System.arraycopy(ahead.personAt, 0, places, d * MOST_PERSONS, MOST_PERSONS);
                wetness[d] = ahead.wetBits(county);
                known = d + 1;
            }
        }

        int waterOn(int days, int place) {
            return water[days * MOST_PLACES + place];
        }

        int placeOn(int days, int person) {
            return places[days * MOST_PERSONS + person];
        }

        int wetOn(int days) {
            return wetness[days];
        }

        private static int swimsOn(int days, County county, State now, int otter) {
            return county.pace[otter] - (days == 0 ? now.swum[otter] : 0);
        }

        int daysToPlace(County county, State now, int otter, int place) {
            int here = 1 << now.otterAt[otter];
            for (int d = 0; d <= LAST_DAY; d++) {
                int swims = swimsOn(d, county, now, otter);
                for (int s = 0; s < swims; s++) {
                    here = county.spread(here, wetness[d]);
                }
                if ((here >> place & 1) != 0) {
                    return d;
                }
            }
            return NONE;
        }

        /** Where the otter can be without the writ, and with it, is carried from swim to swim. */
        int daysToServe(County county, State now, int writ, int otter) {
            int at = 1 << now.otterAt[otter];
            int without = now.holder[writ] == NONE ? at : 0;
            int with = now.holder[writ] == otter ? at : 0;
            int person = county.whom[writ];
            if ((without | with) == 0) {
                return NONE;
            }
            for (int d = 0; d <= LAST_DAY; d++) {
                int swims = swimsOn(d, county, now, otter);
                with |= without & 1 << ASSIZE;
                for (int s = 0; s < swims; s++) {
                    without = county.spread(without, wetness[d]);
                    with = county.spread(with, wetness[d]) | without & 1 << ASSIZE;
                }
                int place = placeOn(d, person);
                if ((with >> place & 1) != 0 && State.isServable(county.kind[person], waterOn(d, place))) {
                    return d;
                }
            }
            return NONE;
        }

        /** All rows of writs are gone through from the first on, so that of equal ones the first is kept. */
        void allot(County county, State now) {
            int otters = county.otters.size;
            int writs = county.writs.size;
            int rows = 1;
            for (int o = 0; o < otters; o++) {
                rows *= writs + 1;
                for (int w = 0; w < writs; w++) {
                    serveDays[o * MOST_WRITS + w] = daysToServe(county, now, w, o);
                }
            }
            allotted = NONE;
            for (int row = 0; row < rows; row++) {
                weighRow(row, otters, writs);
            }
        }

        /** A row is a number whose digits are the otters' writs; the highest digit is none. */
        private void weighRow(int row, int otters, int writs) {
            int used = 0;
            int days = 0;
            int rest = row;
            for (int o = otters - 1; o >= 0; o--) {
                int writ = rest % (writs + 1);
                rest /= writs + 1;
                if (writ < writs) {
                    int each = serveDays[o * MOST_WRITS + writ];
                    if (each == NONE || (used >> writ & 1) != 0) {
                        return;
                    }
                    used |= 1 << writ;
                    days += each;
                }
            }
            int served = Integer.bitCount(used);
            if (served > allotted || served == allotted && days < allottedDays) {
                allotted = served;
                allottedDays = days;
                keepRow(row, otters, writs);
            }
        }

        private void keepRow(int row, int otters, int writs) {
            int rest = row;
            for (int o = otters - 1; o >= 0; o--) {
                int writ = rest % (writs + 1);
                rest /= writs + 1;
                allotment[o] = writ < writs ? writ : NONE;
            }
        }
    }
}
