import java.lang.reflect.InvocationTargetException;
import java.lang.reflect.Method;
import java.lang.reflect.Modifier;
import java.nio.charset.StandardCharsets;
import java.util.ArrayList;
import java.util.Comparator;
import java.util.List;
import java.util.Random;

/** All promises: odd runs of calls, right and wrong ones, answered by the class as by the model of the document. */
public final class ModelTest {
    private static final String[] WORDS = {"place", "water", "stream", "person", "in", "otter", "pace", "writ", "for", "by", "rain",
        "wets", "day", "take", "swim", "serve", "plain", "wary", "bather", "dewy", "not", "and", "or", "level", "falls", "ways",
        "date", "pa", "pb", "qa", "oa", "wa", "1", "9", "60", "61", "10", "12345", "abcdefghi", "(", ")", "<", "=", "+", "-", "*", ";", "#", " ", "A"};

    private final Random random;
    private final List<String> log = new ArrayList<>();
    private OtterWrits real = new OtterWrits();
    private Model model = new Model();
    private int places;
    private int otters;
    private int writs;

    private ModelTest(long seed) {
        random = new Random(seed);
    }

    public static void main(String[] args) throws Exception {
        int runs = args.length > 0 ? Integer.parseInt(args[0]) : 1500;
        long first = args.length > 1 ? Long.parseLong(args[1]) : 1;
        List<Method> methods = new ArrayList<>();
        for (Method m : OtterWrits.class.getDeclaredMethods()) {
            if (Modifier.isPublic(m.getModifiers())) {
                methods.add(m);
            }
        }
        methods.sort(Comparator.comparing(Method::getName));
        for (long seed = first; seed < first + runs; seed++) {
            new ModelTest(seed).run(methods, seed);
        }
        System.out.println(runs + " runs are as the model's");
    }

    private void run(List<Method> methods, long seed) throws Exception {
        int calls = 0;
        while (calls < 400) {
            int choice = random.nextInt(100);
            if (calls == 0 || choice < 1) {
                calls += text(county(), "county");
            } else if (choice < 3) {
                calls += text(mangled(random.nextBoolean() ? county() : session()), random.nextBoolean() ? "county" : "session");
            } else if (choice < 6) {
                calls += text(session(), "session");
            } else if (choice < 30) {
                act();
                calls++;
            } else {
                Method m = methods.get(random.nextInt(methods.size()));
                String name = m.getName();
                if (!name.equals("feed") && !name.equals("county") && !name.equals("session")) {
                    call(m, arguments(m));
                    calls++;
                }
            }
        }
    }

    private void act() throws Exception {
        int choice = random.nextInt(10);
        if (choice < 3) {
            call("take", some(otters), some(writs));
        } else if (choice < 6) {
            call("swim", some(otters), some(places));
        } else if (choice < 8) {
            call("serve", some(writs));
        } else {
            call(choice == 8 ? "day" : "undo");
        }
    }

    private int some(int size) {
        return size == 0 ? 0 : random.nextInt(size);
    }

    private Object[] arguments(Method m) {
        Object[] args = new Object[m.getParameterCount()];
        for (int i = 0; i < args.length; i++) {
            if (m.getParameterTypes()[i] == boolean.class) {
                args[i] = random.nextBoolean();
            } else {
                args[i] = number(m.getName(), i);
            }
        }
        return args;
    }

    private int number(String name, int i) {
        int odd = random.nextInt(60);
        if (odd == 0) {
            return random.nextInt();
        }
        if (odd == 1) {
            return random.nextBoolean() ? Integer.MIN_VALUE : Integer.MAX_VALUE;
        }
        if (odd < 6) {
            return random.nextInt(70) - 3;
        }
        boolean days = i == 1 && (name.equals("later") || name.equals("where") || name.equals("safe"));
        if (days) {
            return random.nextInt(63) - 1;
        }
        if (name.equals("sessions")) {
            return i == 0 ? random.nextInt(10100) - 50 : i == 1 ? random.nextInt(102) : random.nextInt(4);
        }
        if (name.equals("rests")) {
            return i < 3 ? random.nextInt(11) - (random.nextInt(10) == 0 ? 1 : 0) : random.nextInt(6) - 2;
        }
        if (name.equals("chance") && i > 0) {
            return random.nextInt(i == 1 ? 8 : 13) - (i == 1 ? 0 : 1);
        }
        if (name.equals("see") && i == 1) {
            return random.nextInt(11);
        }
        if (name.equals("count")) {
            return random.nextInt(15) - 1;
        }
        return name.equals("share") ? random.nextInt(7) - 3 : random.nextInt(8) - (random.nextInt(6) == 0 ? 1 : 0);
    }

    private void call(String name, Object... args) throws Exception {
        Class<?>[] types = new Class<?>[args.length];
        for (int i = 0; i < args.length; i++) {
            types[i] = args[i] instanceof Boolean ? boolean.class : args[i] instanceof Long ? long.class : int.class;
        }
        call(OtterWrits.class.getMethod(name, types), args);
    }

    private void call(Method m, Object... args) throws Exception {
        StringBuilder told = new StringBuilder(m.getName()).append('(');
        for (int i = 0; i < args.length; i++) {
            told.append(i == 0 ? "" : ", ").append(args[i]);
        }
        told.append(')');
        String got = answer(m, real, args);
        String due = answer(Model.class.getMethod(m.getName(), m.getParameterTypes()), model, args);
        log.add(told + " = " + got);
        if (!got.equals(due)) {
            log.forEach(System.out::println);
            System.out.println(told + " answered " + got + ", the model says " + due);
            System.exit(1);
        }
    }

    private static String answer(Method m, Object on, Object[] args) throws Exception {
        try {
            return String.valueOf(m.invoke(on, args));
        } catch (InvocationTargetException e) {
            return "throws." + e.getCause().getClass().getSimpleName();
        }
    }

    private int text(String text, String reader) throws Exception {
        byte[] bytes = text.getBytes(StandardCharsets.ISO_8859_1);
        log.add(text);
        int calls = 1;
        for (int i = 0; i < bytes.length; i += 24) {
            long[] packed = Check.pack(bytes, i);
            call("feed", packed[0], packed[1], packed[2]);
            calls++;
        }
        call(reader);
        places = real.count(0);
        otters = real.count(3);
        writs = real.count(4);
        return calls;
    }

    // ---- odd texts

    private String county() {
        int n = random.nextInt(7) + 1;
        StringBuilder s = new StringBuilder();
        for (int i = 0; i < n; i++) {
            s.append("place p").append((char) ('a' + i)).append(" water ").append(random.nextInt(10)).append(";");
        }
        List<String> pairs = new ArrayList<>();
        for (int a = 0; a < n; a++) {
            for (int b = a + 1; b < n; b++) {
                pairs.add(random.nextBoolean() ? "p" + (char) ('a' + a) + " p" + (char) ('a' + b)
                        : "p" + (char) ('a' + b) + " p" + (char) ('a' + a));
            }
        }
        java.util.Collections.shuffle(pairs, random);
        int streams = Math.min(pairs.size(), random.nextInt(11));
        for (int i = 0; i < streams; i++) {
            s.append("stream ").append(pairs.get(i)).append(";");
        }
        int people = random.nextInt(6);
        String[] kinds = {"plain", "wary", "bather", "dewy"};
        for (int i = 0; i < people; i++) {
            s.append("person q").append((char) ('a' + i)).append(" ").append(kinds[random.nextInt(4)]).append(" in p")
                    .append((char) ('a' + random.nextInt(n))).append(";");
        }
        int swimmers = random.nextInt(4);
        for (int i = 0; i < swimmers; i++) {
            s.append("otter o").append((char) ('a' + i)).append(" in p").append((char) ('a' + (random.nextBoolean() ? 0 : random.nextInt(n))))
                    .append(" pace ").append(random.nextInt(3) + 1).append(";");
        }
        int papers = people == 0 ? 0 : random.nextInt(7);
        for (int i = 0; i < papers; i++) {
            s.append("writ w").append((char) ('a' + i)).append(" for q").append((char) ('a' + random.nextInt(people)))
                    .append(" by ").append(random.nextInt(random.nextBoolean() ? 10 : 61)).append(";");
        }
        if (random.nextInt(4) > 0) {
            s.append("rain");
            int days = random.nextInt(12) + 1;
            int most = random.nextBoolean() ? 3 : 10;
            for (int i = 0; i < days; i++) {
                s.append(" ").append(random.nextInt(most));
            }
            s.append(";");
        }
        if (random.nextInt(3) > 0) {
            String[] laws = {"level + falls - ways", "level+falls*2-2", "level - 1 + falls * (ways < 3)", "(level + falls) * (not (date = 3)) - 1",
                "level + (falls = 0) * 2 - (level < 4) * 3", "level+1-2*(level=9)", "date * falls - level", expression(0)};
            s.append("wets ").append(laws[random.nextInt(laws.length)]).append(";");
        }
        return s.toString();
    }

    private String expression(int depth) {
        StringBuilder s = new StringBuilder(part(depth));
        int more = random.nextInt(depth > 2 ? 2 : 4);
        boolean tested = false;
        for (int i = 0; i < more; i++) {
            int choice = random.nextInt(8);
            String[] joins = {"+", "-", "*", " and ", " or ", "<", "=", "+"};
            if (choice == 5 || choice == 6) {
                if (tested) {
                    continue;
                }
                tested = true;
            } else if (choice == 3 || choice == 4) {
                tested = false;
            }
            s.append(joins[choice]).append(part(depth));
        }
        return s.toString();
    }

    private String part(int depth) {
        int choice = random.nextInt(depth < 5 ? 9 : 6);
        switch (choice) {
            case 0:
            case 1:
                return " " + (random.nextInt(5) == 0 ? random.nextInt(10000) : random.nextInt(10)) + " ";
            case 2:
                return " level ";
            case 3:
                return " falls ";
            case 4:
                return " ways ";
            case 5:
                return " date ";
            case 6:
                return " not " + part(depth + 1);
            default:
                return "(" + expression(depth + 1) + ")";
        }
    }

    private String session() {
        StringBuilder s = new StringBuilder();
        int lines = random.nextInt(random.nextInt(5) == 0 ? 43 : 15);
        for (int i = 0; i < lines; i++) {
            char otter = (char) ('a' + some(otters));
            char writ = (char) ('a' + some(writs));
            switch (random.nextInt(4)) {
                case 0:
                    s.append("day;");
                    break;
                case 1:
                    s.append("take o").append(otter).append(" w").append(writ).append(";");
                    break;
                case 2:
                    s.append("swim o").append(otter).append(" p").append((char) ('a' + some(places))).append(";\n");
                    break;
                default:
                    s.append("serve w").append(writ).append(" ;");
            }
        }
        return s.toString();
    }

    /** A text with some of its tokens left out, doubled, put elsewhere or made others. */
    private String mangled(String text) {
        String[] tokens = text.split("(?<=[;()+*<=-])|(?=[;()+*<=-])|(?<= )|(?= )");
        List<String> all = new ArrayList<>(List.of(tokens));
        int changes = random.nextInt(3) + 1;
        for (int i = 0; i < changes && !all.isEmpty(); i++) {
            int at = random.nextInt(all.size());
            switch (random.nextInt(4)) {
                case 0:
                    all.remove(at);
                    break;
                case 1:
                    all.add(at, WORDS[random.nextInt(WORDS.length)] + (random.nextBoolean() ? " " : ""));
                    break;
                case 2:
                    all.set(at, WORDS[random.nextInt(WORDS.length)]);
                    break;
                default:
                    all.addAll(at, new ArrayList<>(all.subList(at, Math.min(all.size(), at + random.nextInt(12)))));
            }
        }
        String whole = String.join("", all);
        return random.nextInt(5) == 0 ? whole.substring(0, random.nextInt(whole.length() + 1)) : whole;
    }
}
