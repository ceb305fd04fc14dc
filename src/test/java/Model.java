import java.math.BigInteger;
import java.util.ArrayDeque;
import java.util.ArrayList;
import java.util.Arrays;
import java.util.Deque;
import java.util.HashMap;
import java.util.HashSet;
import java.util.List;
import java.util.Map;
import java.util.NoSuchElementException;
import java.util.Set;

/** The document once more, written apart from the class and without regard to its limits: ModelTest holds both against each other. */
public final class Model {
    private interface Expression {
        int of(int level, int falls, int ways, int date);
    }

    private static final class Fault extends RuntimeException {
        private static final long serialVersionUID = 1L;
        private final int code;

        Fault(int kind, int at) {
            code = kind + 16 * at;
        }
    }

    private static final class Token {
        String text;
        char sort; // w a word, n a number, s a sign, e the end, x none
        int at;
    }

    private static final class Land {
        final List<String> places = new ArrayList<>();
        final List<Integer> water = new ArrayList<>();
        final Set<List<Integer>> streams = new HashSet<>();
        final List<String> persons = new ArrayList<>();
        final List<String> kinds = new ArrayList<>();
        final List<Integer> homes = new ArrayList<>();
        final List<String> otters = new ArrayList<>();
        final List<Integer> holts = new ArrayList<>();
        final List<Integer> paces = new ArrayList<>();
        final List<String> writs = new ArrayList<>();
        final List<Integer> whom = new ArrayList<>();
        final List<Integer> by = new ArrayList<>();
        List<Integer> rain;
        Expression law;

        boolean joined(int a, int b) {
            return streams.contains(Arrays.asList(Math.min(a, b), Math.max(a, b)));
        }

        int ways(int a) {
            int n = 0;
            for (int b = 0; b < places.size(); b++) {
                n += joined(a, b) ? 1 : 0;
            }
            return n;
        }

        int next(int place, int level, int falls, int date) {
            int much = law == null ? level + falls - 1 : law.of(level, falls, ways(place), date);
            return much < 0 ? 0 : much > 9 ? 9 : much;
        }

        int rainOn(int day) {
            return rain == null ? 1 : rain.get(day % rain.size());
        }

        boolean named(String name) {
            return places.contains(name) || persons.contains(name) || otters.contains(name) || writs.contains(name);
        }
    }

    private static final class Affairs {
        int day;
        List<Integer> water = new ArrayList<>();
        List<Integer> persons = new ArrayList<>();
        List<Integer> otters = new ArrayList<>();
        List<Integer> swum = new ArrayList<>();
        List<Integer> writs = new ArrayList<>();

        static Affairs start(Land land) {
            Affairs a = new Affairs();
            a.water.addAll(land.water);
            a.persons.addAll(land.homes);
            a.otters.addAll(land.holts);
            land.otters.forEach(o -> a.swum.add(0));
            land.writs.forEach(w -> a.writs.add(-1));
            return a;
        }

        Affairs twin() {
            Affairs a = new Affairs();
            a.day = day;
            a.water.addAll(water);
            a.persons.addAll(persons);
            a.otters.addAll(otters);
            a.swum.addAll(swum);
            a.writs.addAll(writs);
            return a;
        }
    }

    private static final List<String> KEPT = Arrays.asList(("place water stream person in otter pace writ for by rain wets day take swim "
            + "serve plain wary bather dewy not and or").split(" "));
    private static final List<String> KINDS = Arrays.asList("plain", "wary", "bather", "dewy");

    private String tape = "";
    private Land land = new Land();
    private Affairs now = new Affairs();
    private List<String[]> lines = new ArrayList<>();
    private List<int[]> seen = new ArrayList<>();
    private final Deque<Affairs> past = new ArrayDeque<>();
    private final Map<Integer, Object[]> marks = new HashMap<>();
    private List<Token> tokens;
    private int at;

    // ---- reading

    public int feed(long a, long b, long c) {
        StringBuilder all = new StringBuilder(tape);
        for (long each : new long[] {a, b, c}) {
            for (byte sign : java.nio.ByteBuffer.allocate(8).putLong(each).array()) {
                if (sign == 10 || sign >= 32 && sign <= 126) {
                    all.append((char) sign);
                }
            }
        }
        tape = all.length() > 1000 ? all.substring(0, 1000) : all.toString();
        return tape.length();
    }

    private void tokenize() {
        tokens = new ArrayList<>();
        java.util.regex.Matcher m = java.util.regex.Pattern.compile("[\\n ]+|([a-z]+)|([0-9]+)|([()<=+*;-])|(.)").matcher(tape);
        while (m.find()) {
            Token t = new Token();
            t.at = m.start();
            t.text = m.group();
            if (m.group(1) != null) {
                t.sort = t.text.length() <= 8 ? 'w' : 'x';
            } else if (m.group(2) != null) {
                t.sort = t.text.length() <= 4 ? 'n' : 'x';
            } else if (m.group(3) != null) {
                t.sort = 's';
            } else if (m.group(4) != null) {
                t.sort = 'x';
            } else {
                continue;
            }
            tokens.add(t);
        }
        Token end = new Token();
        end.at = tape.length();
        end.text = "";
        end.sort = 'e';
        tokens.add(end);
        at = 0;
    }

    private Token here() {
        return tokens.get(at);
    }

    private boolean is(String text) {
        return here().sort != 'x' && here().sort != 'e' && here().text.equals(text);
    }

    private Fault wrong(int kind) {
        return new Fault(kind, here().at);
    }

    private void must(String text) {
        if (!is(text)) {
            throw wrong(1);
        }
        at++;
    }

    private String name() {
        if (here().sort != 'w' || KEPT.contains(here().text)) {
            throw wrong(1);
        }
        return here().text;
    }

    private String fresh(Land l) {
        String name = name();
        if (l.named(name)) {
            throw wrong(3);
        }
        at++;
        return name;
    }

    private int known(List<String> names) {
        int i = names.indexOf(name());
        if (i < 0) {
            throw wrong(2);
        }
        at++;
        return i;
    }

    private int number(int low, int high) {
        if (here().sort != 'n') {
            throw wrong(1);
        }
        int n = Integer.parseInt(here().text);
        if (n < low || n > high) {
            throw wrong(4);
        }
        at++;
        return n;
    }

    private void room(int size, int most) {
        if (size == most) {
            throw wrong(5);
        }
        at++;
    }

    public int county() {
        tokenize();
        tape = "";
        Land l = new Land();
        try {
            while (here().sort != 'e') {
                statement(l);
            }
        } catch (Fault f) {
            return f.code;
        }
        land = l;
        now = Affairs.start(l);
        lines = new ArrayList<>();
        seen = new ArrayList<>();
        past.clear();
        marks.clear();
        return 0;
    }

    private void statement(Land l) {
        if (here().sort != 'w') {
            throw wrong(1);
        }
        switch (here().text) {
            case "place": {
                room(l.places.size(), 7);
                String name = fresh(l);
                must("water");
                int n = number(0, 9);
                must(";");
                l.places.add(name);
                l.water.add(n);
                break;
            }
            case "stream": {
                room(l.streams.size(), 10);
                int a = known(l.places);
                int b = l.places.indexOf(name());
                if (b < 0) {
                    throw wrong(2);
                }
                if (a == b || l.joined(a, b)) {
                    throw wrong(3);
                }
                at++;
                must(";");
                l.streams.add(Arrays.asList(Math.min(a, b), Math.max(a, b)));
                break;
            }
            case "person": {
                room(l.persons.size(), 5);
                String name = fresh(l);
                if (!KINDS.contains(here().text)) {
                    throw wrong(1);
                }
                String kind = here().text;
                at++;
                must("in");
                int home = known(l.places);
                must(";");
                l.persons.add(name);
                l.kinds.add(kind);
                l.homes.add(home);
                break;
            }
            case "otter": {
                room(l.otters.size(), 3);
                String name = fresh(l);
                must("in");
                int holt = known(l.places);
                must("pace");
                int pace = number(1, 3);
                must(";");
                l.otters.add(name);
                l.holts.add(holt);
                l.paces.add(pace);
                break;
            }
            case "writ": {
                room(l.writs.size(), 6);
                String name = fresh(l);
                must("for");
                int whom = known(l.persons);
                must("by");
                int by = number(0, 60);
                must(";");
                l.writs.add(name);
                l.whom.add(whom);
                l.by.add(by);
                break;
            }
            default:
                weather(l);
        }
    }

    private void weather(Land l) {
        boolean rain = is("rain");
        if (!rain && !is("wets")) {
            throw wrong(1);
        }
        if (rain ? l.rain != null : l.law != null) {
            throw wrong(3);
        }
        at++;
        if (rain) {
            List<Integer> row = new ArrayList<>();
            do {
                if (row.size() == 12 && here().sort == 'n' && Integer.parseInt(here().text) <= 9) {
                    throw wrong(5);
                }
                row.add(number(0, 9));
            } while (here().sort == 'n');
            l.rain = row;
        } else {
            l.law = expression(0);
        }
        must(";");
    }

    private Expression expression(int depth) {
        Expression left = test(depth);
        while (is("and") || is("or")) {
            boolean and = is("and");
            at++;
            Expression a = left;
            Expression b = test(depth);
            left = (v, f, w, d) -> {
                boolean x = a.of(v, f, w, d) != 0;
                boolean y = b.of(v, f, w, d) != 0;
                return (and ? x && y : x || y) ? 1 : 0;
            };
        }
        return left;
    }

    private Expression test(int depth) {
        Expression a = sum(depth);
        if (!is("<") && !is("=")) {
            return a;
        }
        boolean less = is("<");
        at++;
        Expression b = sum(depth);
        return (v, f, w, d) -> (less ? a.of(v, f, w, d) < b.of(v, f, w, d) : a.of(v, f, w, d) == b.of(v, f, w, d)) ? 1 : 0;
    }

    private Expression sum(int depth) {
        Expression left = product(depth);
        while (is("+") || is("-")) {
            int sign = is("+") ? 1 : -1;
            at++;
            Expression a = left;
            Expression b = product(depth);
            left = (v, f, w, d) -> a.of(v, f, w, d) + sign * b.of(v, f, w, d);
        }
        return left;
    }

    private Expression product(int depth) {
        Expression left = part(depth);
        while (is("*")) {
            at++;
            Expression a = left;
            Expression b = part(depth);
            left = (v, f, w, d) -> a.of(v, f, w, d) * b.of(v, f, w, d);
        }
        return left;
    }

    private Expression part(int depth) {
        boolean fits = here().sort == 'n' || Arrays.asList("level", "falls", "ways", "date", "not", "(").contains(here().text);
        if (!fits) {
            throw wrong(1);
        }
        if (depth == 5) {
            throw wrong(5);
        }
        Token t = here();
        at++;
        switch (t.text) {
            case "level":
                return (v, f, w, d) -> v;
            case "falls":
                return (v, f, w, d) -> f;
            case "ways":
                return (v, f, w, d) -> w;
            case "date":
                return (v, f, w, d) -> d;
            case "not": {
                Expression inner = part(depth + 1);
                return (v, f, w, d) -> inner.of(v, f, w, d) == 0 ? 1 : 0;
            }
            case "(": {
                Expression inner = expression(depth + 1);
                must(")");
                return inner;
            }
            default: {
                int n = Integer.parseInt(t.text);
                return (v, f, w, d) -> n;
            }
        }
    }

    public int session() {
        tokenize();
        tape = "";
        List<String[]> read = new ArrayList<>();
        try {
            while (here().sort != 'e') {
                String word = here().text;
                if (!Arrays.asList("day", "take", "swim", "serve").contains(word)) {
                    throw wrong(1);
                }
                room(read.size(), 40);
                String[] line = {word, "", ""};
                if (word.equals("take") || word.equals("swim")) {
                    line[1] = land.otters.get(known(land.otters));
                    List<String> names = word.equals("take") ? land.writs : land.places;
                    line[2] = names.get(known(names));
                } else if (word.equals("serve")) {
                    line[1] = land.writs.get(known(land.writs));
                }
                must(";");
                read.add(line);
            }
        } catch (Fault f) {
            return f.code;
        }
        lines = read;
        return 0;
    }

    // ---- asking and doing

    private static boolean has(List<?> list, int i) {
        return i >= 0 && i < list.size();
    }

    private static int bits(List<Integer> list, int value) {
        int bits = 0;
        for (int i = 0; i < list.size(); i++) {
            bits |= list.get(i) == value ? 1 << i : 0;
        }
        return bits;
    }

    public int place(int place, int what) {
        if (!has(land.places, place) || what < 0 || what > 3) {
            return -1;
        }
        int linked = 0;
        for (int b = 0; b < land.places.size(); b++) {
            linked |= land.joined(place, b) ? 1 << b : 0;
        }
        return new int[] {now.water.get(place), linked, bits(now.persons, place), bits(now.otters, place)}[what];
    }

    public int person(int person, int what) {
        if (!has(land.persons, person) || what < 0 || what > 1) {
            return -1;
        }
        return what == 0 ? KINDS.indexOf(land.kinds.get(person)) : now.persons.get(person);
    }

    public int otter(int otter, int what) {
        if (!has(land.otters, otter) || what < 0 || what > 3) {
            return -1;
        }
        return new int[] {land.paces.get(otter), now.otters.get(otter), now.swum.get(otter), bits(now.writs, otter)}[what];
    }

    public int writ(int writ, int what) {
        if (!has(land.writs, writ) || what < 0 || what > 2) {
            return -2;
        }
        return new int[] {land.whom.get(writ), land.by.get(writ), now.writs.get(writ)}[what];
    }

    private boolean tryTake(Affairs a, int otter, int writ) {
        if (!has(land.otters, otter) || !has(land.writs, writ) || a.otters.get(otter) != 0 || a.writs.get(writ) != -1) {
            return false;
        }
        if (a.writs.stream().filter(w -> w == otter).count() >= 2) {
            return false;
        }
        a.writs.set(writ, otter);
        return true;
    }

    private boolean trySwim(Affairs a, int otter, int place) {
        if (!has(land.otters, otter) || !has(land.places, place)) {
            return false;
        }
        int from = a.otters.get(otter);
        if (!land.joined(from, place) || a.water.get(from) < 1 || a.water.get(place) < 1 || a.swum.get(otter) >= land.paces.get(otter)) {
            return false;
        }
        a.otters.set(otter, place);
        a.swum.set(otter, a.swum.get(otter) + 1);
        return true;
    }

    private static int needs(String kind) {
        return kind.equals("dewy") ? 0 : kind.equals("wary") ? 3 : 1;
    }

    private boolean tryServe(Affairs a, int writ) {
        if (!has(land.writs, writ) || a.writs.get(writ) == -1 || a.writs.get(writ) == 3) {
            return false;
        }
        int person = land.whom.get(writ);
        int place = a.persons.get(person);
        if (a.otters.get(a.writs.get(writ)) != place || a.water.get(place) < needs(land.kinds.get(person))) {
            return false;
        }
        a.writs.set(writ, 3);
        return true;
    }

    private void pass(Affairs a) {
        List<Integer> before = new ArrayList<>(a.water);
        for (int p = 0; p < before.size(); p++) {
            a.water.set(p, land.next(p, before.get(p), land.rainOn(a.day), a.day));
        }
        for (int q = 0; q < a.persons.size(); q++) {
            int from = a.persons.get(q);
            String kind = land.kinds.get(q);
            if (kind.equals("plain") || kind.equals("dewy")) {
                continue;
            }
            List<Integer> open = new ArrayList<>();
            open.add(from);
            for (int p = 0; p < before.size(); p++) {
                if (land.joined(from, p)) {
                    open.add(p);
                }
            }
            boolean wary = kind.equals("wary");
            int aim = open.stream().mapToInt(a.water::get).reduce(wary ? Math::min : Math::max).getAsInt();
            a.persons.set(q, open.stream().filter(p -> a.water.get(p) == aim).findFirst().get());
        }
        a.swum.replaceAll(s -> 0);
        a.day++;
    }

    private void keep(Affairs before) {
        past.push(before);
        if (past.size() > 16) {
            past.removeLast();
        }
    }

    public boolean take(int otter, int writ) {
        Affairs before = now.twin();
        boolean done = tryTake(now, otter, writ);
        if (done) {
            keep(before);
        }
        return done;
    }

    public int swim(int otter, int place) {
        Affairs before = now.twin();
        if (!trySwim(now, otter, place)) {
            return -1;
        }
        keep(before);
        return now.swum.get(otter);
    }

    public int serve(int writ) {
        Affairs before = now.twin();
        if (!tryServe(now, writ)) {
            return -1;
        }
        keep(before);
        return before.writs.get(writ);
    }

    private static int wetOf(Affairs a) {
        int bits = 0;
        for (int p = 0; p < a.water.size(); p++) {
            bits |= a.water.get(p) > 0 ? 1 << p : 0;
        }
        return bits;
    }

    public int day() {
        keep(now.twin());
        pass(now);
        return wetOf(now);
    }

    public boolean undo() {
        if (past.isEmpty()) {
            return false;
        }
        now = past.pop();
        return true;
    }

    public int judged(int what) {
        Affairs a = Affairs.start(land);
        int bad = -1;
        int first = -1;
        for (int i = 0; i < lines.size(); i++) {
            String[] line = lines.get(i);
            boolean done = true;
            if (line[0].equals("day")) {
                pass(a);
            } else if (line[0].equals("take")) {
                done = tryTake(a, land.otters.indexOf(line[1]), land.writs.indexOf(line[2]));
            } else if (line[0].equals("swim")) {
                done = trySwim(a, land.otters.indexOf(line[1]), land.places.indexOf(line[2]));
            } else {
                done = tryServe(a, land.writs.indexOf(line[1]));
                first = done && first < 0 ? i : first;
            }
            bad = !done && bad < 0 ? i : bad;
        }
        return what == 0 ? bad : what == 1 ? first : what == 2 ? Integer.bitCount(bits(a.writs, 3)) : -2;
    }

    private Affairs ahead(int days) {
        Affairs a = now.twin();
        for (int d = 0; d < days; d++) {
            pass(a);
        }
        return a;
    }

    public int later(int place, int days) {
        return has(land.places, place) && days >= 0 && days <= 60 ? ahead(days).water.get(place) : -1;
    }

    public int where(int person, int days) {
        return has(land.persons, person) && days >= 0 && days <= 60 ? ahead(days).persons.get(person) : -1;
    }

    private int firstDay(java.util.function.Predicate<Affairs> test) {
        Affairs a = now.twin();
        for (int d = 0; d <= 60; d++) {
            if (test.test(a)) {
                return d;
            }
            pass(a);
        }
        return -1;
    }

    public int dry(int place) {
        return has(land.places, place) ? firstDay(a -> a.water.get(place) < 1) : -1;
    }

    public int wet(int place) {
        return has(land.places, place) ? firstDay(a -> a.water.get(place) >= 1) : -1;
    }

    public int flood() {
        return firstDay(a -> a.water.stream().allMatch(w -> w >= 1));
    }

    public int crest(int place) {
        if (!has(land.places, place)) {
            return -1;
        }
        List<Integer> all = new ArrayList<>();
        firstDay(a -> !all.add(a.water.get(place)));
        return all.indexOf(java.util.Collections.max(all));
    }

    public int safe(int person, int days) {
        if (!has(land.persons, person) || days < 1 || days > 60) {
            return -1;
        }
        int bits = (1 << land.places.size()) - 1;
        Affairs a = now.twin();
        for (int d = 0; d <= days; d++) {
            for (int p = 0; p < land.places.size(); p++) {
                if (a.water.get(p) >= needs(land.kinds.get(person))) {
                    bits &= ~(1 << p);
                }
            }
            pass(a);
        }
        return bits;
    }

    // All that one otter can do is gone through, state by state: its place, what it has swum, whether it has the writ.
    private int search(int otter, int goal, int writ) {
        Affairs a = now.twin();
        Set<List<Integer>> states = new HashSet<>();
        boolean with = writ >= 0 && a.writs.get(writ) == otter;
        states.add(Arrays.asList(a.otters.get(otter), a.swum.get(otter), with ? 1 : 0));
        for (int d = 0; d <= 60; d++) {
            Deque<List<Integer>> open = new ArrayDeque<>(states);
            while (!open.isEmpty()) {
                List<Integer> s = open.pop();
                if (writ < 0 ? s.get(0) == goal : s.get(2) == 1 && served(a, writ, s.get(0))) {
                    return d;
                }
                List<List<Integer>> more = new ArrayList<>();
                if (writ >= 0 && s.get(0) == 0) {
                    more.add(Arrays.asList(0, s.get(1), 1));
                }
                for (int p = 0; p < land.places.size() && s.get(1) < land.paces.get(otter); p++) {
                    if (land.joined(s.get(0), p) && a.water.get(s.get(0)) > 0 && a.water.get(p) > 0) {
                        more.add(Arrays.asList(p, s.get(1) + 1, s.get(2)));
                    }
                }
                for (List<Integer> m : more) {
                    if (states.add(m)) {
                        open.push(m);
                    }
                }
            }
            Set<List<Integer>> rested = new HashSet<>();
            states.forEach(s -> rested.add(Arrays.asList(s.get(0), 0, s.get(2))));
            states = rested;
            pass(a);
        }
        return -1;
    }

    private boolean served(Affairs a, int writ, int place) {
        int person = land.whom.get(writ);
        return a.persons.get(person) == place && a.water.get(place) >= needs(land.kinds.get(person));
    }

    public int soon(int otter, int place) {
        return has(land.otters, otter) && has(land.places, place) ? search(otter, place, -1) : -1;
    }

    public int serves(int writ, int otter) {
        if (!has(land.otters, otter) || !has(land.writs, writ)) {
            return -1;
        }
        int holder = now.writs.get(writ);
        return holder == -1 || holder == otter ? search(otter, -1, writ) : -1;
    }

    public int intime(int writ) {
        if (!has(land.writs, writ)) {
            return -1;
        }
        int bits = 0;
        for (int o = 0; o < land.otters.size(); o++) {
            int days = serves(writ, o);
            bits |= days >= 0 && now.day + days <= land.by.get(writ) ? 1 << o : 0;
        }
        return bits;
    }

    public int share(int what) {
        if (what < -2 || what >= land.otters.size()) {
            return -3;
        }
        int[][] days = new int[land.otters.size()][land.writs.size()];
        for (int o = 0; o < days.length; o++) {
            for (int w = 0; w < days[o].length; w++) {
                days[o][w] = serves(w, o);
            }
        }
        List<List<Integer>> rows = new ArrayList<>();
        rows.add(new ArrayList<>());
        for (int o = 0; o < days.length; o++) {
            List<List<Integer>> longer = new ArrayList<>();
            for (List<Integer> row : rows) {
                for (int w = 0; w <= land.writs.size(); w++) {
                    boolean none = w == land.writs.size();
                    if (none || days[o][w] >= 0 && !row.contains(w)) {
                        List<Integer> more = new ArrayList<>(row);
                        more.add(none ? 99 : w);
                        longer.add(more);
                    }
                }
            }
            rows = longer;
        }
        List<Integer> best = null;
        for (List<Integer> row : rows) {
            List<Integer> key = new ArrayList<>();
            int sum = 0;
            int many = 0;
            for (int o = 0; o < row.size(); o++) {
                if (row.get(o) != 99) {
                    many++;
                    sum += days[o][row.get(o)];
                }
            }
            key.add(-many);
            key.add(sum);
            key.addAll(row);
            if (best == null || Arrays.compare(ints(key), ints(best)) < 0) {
                best = key;
            }
        }
        int answer = what == -1 ? -best.get(0) : what == -2 ? best.get(1) : best.get(2 + what);
        return answer == 99 && what >= 0 ? -1 : answer;
    }

    private static int[] ints(List<Integer> list) {
        return list.stream().mapToInt(i -> i).toArray();
    }

    public int late() {
        int bits = 0;
        for (int w = 0; w < land.writs.size(); w++) {
            bits |= now.writs.get(w) != 3 && land.by.get(w) < now.day ? 1 << w : 0;
        }
        return bits;
    }

    public boolean may(int writ) {
        return tryServe(now.twin(), writ);
    }

    public int can(int otter) {
        if (!has(land.otters, otter)) {
            return -1;
        }
        int bits = 0;
        for (int p = 0; p < land.places.size(); p++) {
            bits |= trySwim(now.twin(), otter, p) ? 1 << p : 0;
        }
        return bits;
    }

    private int[][] distances(int open, List<Integer> left) {
        int n = land.places.size();
        int[][] far = new int[n][n];
        for (int a = 0; a < n; a++) {
            for (int b = 0; b < n; b++) {
                boolean step = land.joined(a, b) && (open >> a & open >> b & 1) != 0
                        && !Arrays.asList(Math.min(a, b), Math.max(a, b)).equals(left);
                far[a][b] = a == b ? 0 : step ? 1 : 99;
            }
        }
        for (int k = 0; k < n; k++) {
            for (int a = 0; a < n; a++) {
                for (int b = 0; b < n; b++) {
                    far[a][b] = Math.min(far[a][b], far[a][k] + far[k][b]);
                }
            }
        }
        return far;
    }

    private int near(int place, int open) {
        int bits = 0;
        for (int b = 0; b < land.places.size(); b++) {
            bits |= distances(open, null)[place][b] < 99 ? 1 << b : 0;
        }
        return bits;
    }

    public int reach(int place) {
        return has(land.places, place) ? near(place, 127) : -1;
    }

    public int pool(int place) {
        if (!has(land.places, place)) {
            return -1;
        }
        return now.water.get(place) > 0 ? near(place, wetOf(now)) : 0;
    }

    public int far(int place, int other) {
        if (!has(land.places, place) || !has(land.places, other)) {
            return -1;
        }
        int steps = distances(127, null)[place][other];
        return steps >= 99 ? -1 : steps;
    }

    public int pools() {
        Set<Integer> all = new HashSet<>();
        for (int p = 0; p < land.places.size(); p++) {
            all.add(pool(p));
        }
        all.remove(0);
        return all.size();
    }

    public int bridges() {
        int n = 0;
        for (List<Integer> s : land.streams) {
            n += distances(127, s)[s.get(0)][s.get(1)] >= 99 ? 1 : 0;
        }
        return n;
    }

    public int warm() {
        int best = -1;
        for (int p = land.places.size() - 1; p >= 0; p--) {
            int n = Integer.bitCount(bits(now.persons, p));
            if (n > 0 && (best < 0 || n >= Integer.bitCount(bits(now.persons, best)))) {
                best = p;
            }
        }
        return best;
    }

    public int hunted() {
        int[] open = new int[land.persons.size()];
        for (int w = 0; w < land.writs.size(); w++) {
            open[land.whom.get(w)] += now.writs.get(w) != 3 ? 1 : 0;
        }
        int most = Arrays.stream(open).max().orElse(0);
        for (int q = 0; q < open.length && most > 0; q++) {
            if (open[q] == most) {
                return q;
            }
        }
        return -1;
    }

    public boolean see(int place, int water, boolean more) {
        if (!has(land.places, place) || water < 0 || water > 9 || seen.size() >= 8) {
            return false;
        }
        seen.add(new int[] {place, water, more ? 1 : 0});
        return true;
    }

    private int tomorrow(int place, int rain) {
        return land.next(place, now.water.get(place), rain, now.day);
    }

    public int rains() {
        int bits = 0;
        for (int r = 0; r <= 9; r++) {
            int rain = r;
            if (seen.stream().allMatch(s -> s[2] == 1 ? tomorrow(s[0], rain) >= s[1] : tomorrow(s[0], rain) < s[1])) {
                bits |= 1 << r;
            }
        }
        return bits;
    }

    public int look() {
        int bits = rains();
        int all = Integer.bitCount(bits);
        int answer = -1;
        int best = all;
        for (int p = 0; p < land.places.size(); p++) {
            for (int h = 1; h <= 9; h++) {
                int more = 0;
                int less = 0;
                for (int r = 0; r <= 9; r++) {
                    if ((bits >> r & 1) != 0) {
                        if (tomorrow(p, r) >= h) {
                            more++;
                        } else {
                            less++;
                        }
                    }
                }
                if (Math.max(more, less) < best) {
                    best = Math.max(more, less);
                    answer = 10 * p + h;
                }
            }
        }
        return answer;
    }

    public int chance(int place, int days, int odds) {
        if (!has(land.places, place) || days < 1 || days > 6 || odds < 0 || odds > 10) {
            return -1;
        }
        BigInteger sum = BigInteger.ZERO;
        for (int row = 0; row < 1 << days; row++) {
            int level = now.water.get(place);
            BigInteger weight = BigInteger.ONE;
            for (int d = 0; d < days; d++) {
                boolean rainy = (row >> d & 1) != 0;
                weight = weight.multiply(BigInteger.valueOf(rainy ? odds : 10 - odds));
                level = land.next(place, level, rainy ? 9 : 0, now.day + d);
            }
            sum = level > 0 ? sum.add(weight) : sum;
        }
        return sum.multiply(BigInteger.valueOf(1000000)).divide(BigInteger.TEN.pow(days)).intValueExact();
    }

    public int rests(int both, int loses, int gets, int what) throws NoSuchElementException {
        for (int n : new int[] {both, loses, gets}) {
            if (n < 0 || n > 9) {
                throw new NoSuchElementException();
            }
        }
        int[][] pay = {{0, gets}, {-loses, both}};
        List<Integer> all = new ArrayList<>();
        for (int a = 0; a < 2; a++) {
            for (int b = 0; b < 2; b++) {
                if (pay[1 - a][b] <= pay[a][b] && pay[1 - b][a] <= pay[b][a]) {
                    all.add(2 * a + b);
                }
            }
        }
        if (what == -1) {
            return all.size();
        }
        if (!has(all, what)) {
            throw new NoSuchElementException();
        }
        return all.get(what);
    }

    public int sessions(int seed, int days, int what) {
        if (seed < 0 || seed > 9999 || days < 1 || days > 99 || what < 0 || what > 2) {
            return -1;
        }
        Affairs a = now.twin();
        BigInteger[] g = {BigInteger.valueOf(seed)};
        int served = 0;
        for (int d = 0; d < days; d++) {
            if (!land.otters.isEmpty()) {
                int otter = draw(g, land.otters.size());
                int place = draw(g, land.places.size());
                int choice = draw(g, 5);
                if (choice <= 2) {
                    trySwim(a, otter, place);
                } else if (!land.writs.isEmpty()) {
                    int writ = draw(g, land.writs.size());
                    if (choice == 3) {
                        tryTake(a, otter, writ);
                    } else if (tryServe(a, writ)) {
                        served++;
                    }
                }
            }
            pass(a);
        }
        return what == 0 ? served : what == 1 ? a.water.stream().mapToInt(w -> w).sum() : bits(a.persons, 0);
    }

    private static int draw(BigInteger[] g, int m) {
        g[0] = g[0].multiply(BigInteger.valueOf(1103515245)).add(BigInteger.valueOf(12345)).mod(BigInteger.valueOf(2147483648L));
        return g[0].divide(BigInteger.valueOf(65536)).mod(BigInteger.valueOf(m)).intValueExact();
    }

    public boolean mark(int mark, boolean back) {
        if (mark < 0 || mark > 3) {
            return false;
        }
        if (!back) {
            marks.put(mark, new Object[] {now.twin(), new ArrayList<>(lines), new ArrayList<>(seen)});
            return true;
        }
        if (!marks.containsKey(mark)) {
            return false;
        }
        goBack(marks.get(mark));
        return true;
    }

    @SuppressWarnings("unchecked")
    private void goBack(Object[] held) {
        now = ((Affairs) held[0]).twin();
        lines = new ArrayList<>((List<String[]>) held[1]);
        seen = new ArrayList<>((List<int[]>) held[2]);
        past.clear();
    }

    public int count(int what) {
        int[] all = {land.places.size(), land.streams.size(), land.persons.size(), land.otters.size(), land.writs.size(), now.day,
            land.rainOn(now.day), wetOf(now), bits(now.writs, 3), lines.size(), seen.size(), past.size(), tape.length()};
        return what >= 0 && what < all.length ? all[what] : -1;
    }
}
