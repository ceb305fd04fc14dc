import java.io.IOException;
import java.nio.file.Files;
import java.nio.file.Path;
import java.util.Arrays;
import java.util.LinkedHashMap;
import java.util.Map;
import java.util.regex.Matcher;
import java.util.regex.Pattern;

/** Tests by sentences: each bears the words of the document that it holds, and the document is looked through for words with no test. */
final class Edge {
    private static final Path DOCUMENT = Path.of("../shared/DOC.md");
    private static final Map<String, String> SECTIONS = new LinkedHashMap<>();
    private static final Map<String, boolean[]> HELD = new LinkedHashMap<>();
    private static String section = "";
    private static int tests;

    private Edge() {
    }

    /** The sections are "What it is" (its last sentence), "Terms 1" to "Terms 3" and "Promise 1" to "Promise 43"; signatures, marks and blanks are left out. */
    static void readDocument() {
        if (!Files.exists(DOCUMENT)) {
            System.out.println("no " + DOCUMENT + ": the sentences are not held against it");
            return;
        }
        String text;
        try {
            text = Files.readString(DOCUMENT);
        } catch (IOException e) {
            throw new IllegalStateException(e);
        }
        String calls = "An object is used for";
        put("What it is", text.substring(text.indexOf(calls), text.indexOf("## The public face")));
        String terms = text.substring(text.indexOf("## Terms") + 8, text.indexOf("## Promise 1:"));
        String[] parts = terms.split("==== [23]\\.");
        for (int i = 0; i < parts.length; i++) {
            put("Terms " + (i + 1), parts[i]);
        }
        String promises = text.substring(text.indexOf("## Promise 1:"), text.indexOf("## Not promised"));
        Matcher each = Pattern.compile("## (Promise \\d+): [^\n]*\n(.*?)(?=## |\\z)", Pattern.DOTALL).matcher(promises);
        while (each.find()) {
            put(each.group(1), each.group(2).replaceAll("`[^`]*`:", ""));
        }
    }

    private static void put(String name, String text) {
        String plain = plain(text.replace("```text", " ").replace("```", " "));
        SECTIONS.put(name, plain);
        HELD.put(name, new boolean[plain.length()]);
    }

    private static String plain(String text) {
        return text.replaceAll("\\s+", " ").trim();
    }

    static void in(String name) {
        section = name;
        Check.yes("the document has " + name, SECTIONS.isEmpty() || SECTIONS.containsKey(name));
    }

    /** The sentence stands in the section, and the body holds the class to it. */
    static void of(String sentence, Runnable body) {
        tests++;
        Check.about = section + ", \"" + sentence + "\": ";
        hold(plain(sentence));
        try {
            body.run();
        } catch (RuntimeException e) {
            Check.same("no exception: " + e + " at " + e.getStackTrace()[0], 1, 0);
        }
        Check.about = "";
    }

    private static void hold(String sentence) {
        String text = SECTIONS.get(section);
        if (text == null) {
            return;
        }
        int at = text.indexOf(sentence);
        Check.yes("the document says so", at >= 0);
        if (at >= 0) {
            Arrays.fill(HELD.get(section), at, at + sentence.length(), true);
        }
    }

    /** Words of the document that no sentence here holds are told as wrong. */
    static void end() {
        for (Map.Entry<String, String> each : SECTIONS.entrySet()) {
            StringBuilder left = new StringBuilder();
            boolean[] held = HELD.get(each.getKey());
            for (int i = 0; i < held.length; i++) {
                left.append(held[i] ? '|' : each.getValue().charAt(i));
            }
            for (String words : left.toString().split("\\|+")) {
                Check.yes(each.getKey() + " has words without a test: " + words, words.replaceAll("[ ;:,.()]", "").isEmpty());
            }
        }
        System.out.println(tests + " sentences");
        Check.end();
    }
}
