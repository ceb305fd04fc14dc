import java.io.ByteArrayOutputStream;
import java.io.PrintStream;
import java.lang.reflect.InvocationTargetException;
import java.lang.reflect.Method;
import java.nio.charset.StandardCharsets;
import java.nio.file.Files;
import java.nio.file.Path;
import java.util.ArrayList;
import java.util.LinkedHashMap;
import java.util.List;
import java.util.Map;
import java.util.NoSuchElementException;
import java.util.regex.Matcher;
import java.util.regex.Pattern;

/** README.md is held against the class: its example and what that prints, its table of calls and of what others get. */
public final class ReadmeTest {
    private static final Pattern ROW = Pattern.compile("(?m)^\\| `(\\w+)\\(([^)]*)\\)` \\|.*\\| ?(`([\\w-]+)`.*)? ?\\|$");
    private static final Pattern FACE = Pattern.compile("(?m)^    public (?:int|boolean) (\\w+)\\(([^)]*)\\)");

    public static void main(String[] args) throws Exception {
        String readme = Files.readString(Path.of("README.md"));
        example(readme);
        names(readme);
        others(readme);
        Check.end();
    }

    private static void example(String readme) throws Exception {
        String source = Files.readString(Path.of("src/test/java/Example.java"));
        Check.yes("README.md has Example.java as it is", readme.contains("```java\n" + source + "```\n"));
        PrintStream usual = System.out;
        ByteArrayOutputStream printed = new ByteArrayOutputStream();
        System.setOut(new PrintStream(printed, true, StandardCharsets.UTF_8));
        Example.main(new String[0]);
        System.setOut(usual);
        String lines = printed.toString(StandardCharsets.UTF_8).replace(System.lineSeparator(), "\n");
        Check.yes("README.md has what the example prints: " + lines, readme.contains("```text\n" + lines + "```\n"));
    }

    /** The calls with their parameters' names, in the order in which they stand. */
    private static List<String> calls(Pattern pattern, String text) {
        List<String> calls = new ArrayList<>();
        Matcher m = pattern.matcher(text);
        while (m.find()) {
            calls.add(m.group(1) + "(" + m.group(2).replaceAll("(int|long|boolean) ", "") + ")");
        }
        return calls;
    }

    private static void names(String readme) throws Exception {
        List<String> due = calls(FACE, Files.readString(Path.of("../shared/DOC.md")));
        Check.same("calls of the document", due.size(), 42);
        Check.equal("calls of README.md", calls(ROW, readme).toString(), due.toString());
    }

    /** Of each call whose row tells of others: each number in turn is one that can't be, the rest being as they may. */
    private static void others(String readme) throws Exception {
        Map<String, Method> methods = new LinkedHashMap<>();
        for (Method m : OtterWrits.class.getMethods()) {
            methods.put(m.getName(), m);
        }
        Matcher row = ROW.matcher(readme);
        int tried = 0;
        while (row.find()) {
            Method method = methods.get(row.group(1));
            if (method == null) {
                Check.yes("a call " + row.group(1), false);
            } else if (row.group(4) == null) {
                Check.no(row.group(1) + " has no others", hasOthers(method));
            } else {
                tried += tryOthers(method, row.group(4));
            }
        }
        Check.same("numbers of which others were tried", tried, 49);
    }

    /** What is fed may be any number; what else takes a number has others. */
    private static boolean hasOthers(Method method) {
        return List.of(method.getParameterTypes()).contains(int.class);
    }

    private static int tryOthers(Method method, String word) throws Exception {
        Class<?>[] types = method.getParameterTypes();
        int tried = 0;
        for (int i = 0; i < types.length; i++) {
            if (types[i] == int.class) {
                tried++;
                for (int odd : new int[] {Integer.MIN_VALUE, -4, 100000, Integer.MAX_VALUE}) {
                    Object[] args = usual(types);
                    args[i] = odd;
                    Check.same(method.getName() + " of " + List.of(args), answer(method, args), value(word));
                }
            }
        }
        return tried;
    }

    private static Object[] usual(Class<?>[] types) {
        Object[] args = new Object[types.length];
        for (int i = 0; i < types.length; i++) {
            args[i] = types[i] == boolean.class ? (Object) false : (Object) 1;
        }
        return args;
    }

    private static int answer(Method method, Object[] args) throws Exception {
        try {
            Object answer = method.invoke(Check.told(Tell.full()), args);
            return answer instanceof Boolean ? ((Boolean) answer ? 1 : 0) : (Integer) answer;
        } catch (InvocationTargetException e) {
            if (e.getCause() instanceof NoSuchElementException) {
                return Check.THROWN;
            }
            throw e;
        }
    }

    private static int value(String word) {
        switch (word) {
            case "NONE":
                return OtterWrits.NONE;
            case "false":
                return 0;
            case "NoSuchElementException":
                return Check.THROWN;
            default:
                return Integer.parseInt(word);
        }
    }
}
