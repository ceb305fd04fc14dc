import java.io.IOException;
import java.lang.reflect.Constructor;
import java.lang.reflect.Field;
import java.lang.reflect.Method;
import java.lang.reflect.Modifier;
import java.nio.file.Files;
import java.nio.file.Path;
import java.util.Arrays;
import java.util.HashSet;
import java.util.List;
import java.util.Set;
import java.util.TreeSet;
import java.util.regex.Matcher;
import java.util.regex.Pattern;

/** The face as the document has it, and of LANGUAGE.md what can be seen from outside or from the text. */
public final class FaceTest {
    private static final String[] FACE = {"feed(long,long,long):int", "county():int", "session():int", "place(int,int):int",
        "person(int,int):int", "otter(int,int):int", "writ(int,int):int", "take(int,int):boolean", "swim(int,int):int",
        "serve(int):int", "day():int", "undo():boolean", "judged(int):int", "later(int,int):int", "where(int,int):int", "dry(int):int",
        "wet(int):int", "flood():int", "crest(int):int", "safe(int,int):int", "soon(int,int):int", "serves(int,int):int",
        "intime(int):int", "share(int):int", "late():int", "may(int):boolean", "can(int):int", "reach(int):int", "pool(int):int",
        "far(int,int):int", "pools():int", "bridges():int", "warm():int", "hunted():int", "see(int,int,boolean):boolean",
        "rains():int", "look():int", "chance(int,int,int):int", "rests(int,int,int,int):int", "sessions(int,int,int):int",
        "mark(int,boolean):boolean", "count(int):int"};
    private static final Path SOURCE = Path.of("src/main/java/OtterWrits.java");

    public static void main(String[] args) throws Exception {
        members();
        insides();
        text();
        room();
        Check.end();
    }

    private static void members() throws Exception {
        Class<?> face = OtterWrits.class;
        Check.yes("public and final", Modifier.isPublic(face.getModifiers()) && Modifier.isFinal(face.getModifiers()));
        Set<String> due = new TreeSet<>(Arrays.asList(FACE));
        Set<String> publics = new TreeSet<>();
        Set<String> names = new HashSet<>();
        for (Method m : face.getDeclaredMethods()) {
            if (Modifier.isPublic(m.getModifiers())) {
                StringBuilder s = new StringBuilder(m.getName()).append('(');
                for (Class<?> type : m.getParameterTypes()) {
                    s.append(s.charAt(s.length() - 1) == '(' ? "" : ",").append(type.getName());
                }
                publics.add(s.append("):").append(m.getReturnType().getName()).toString());
                names.add(m.getName());
            }
        }
        Check.same("42 methods", due.size(), 42);
        Check.yes("the methods of the document: " + publics, publics.equals(due));
        for (Method m : face.getDeclaredMethods()) {
            Check.yes(m.getName() + " is public or private", Modifier.isPublic(m.getModifiers())
                    || Modifier.isPrivate(m.getModifiers()) && !names.contains(m.getName()));
        }
        Constructor<?>[] constructors = face.getDeclaredConstructors();
        Check.same("one constructor", constructors.length, 1);
        Check.yes("it is public", Modifier.isPublic(constructors[0].getModifiers()) && constructors[0].getParameterCount() == 0);
        for (Field f : face.getDeclaredFields()) {
            Check.yes("the field " + f.getName(), f.getName().equals("NONE") == Modifier.isPublic(f.getModifiers())
                    && Modifier.isPublic(f.getModifiers()) != Modifier.isPrivate(f.getModifiers()));
        }
        Check.same("NONE", face.getField("NONE").getInt(null), -1);
        Check.yes("rests tells what it throws", Arrays.asList(face.getMethod("rests", int.class, int.class, int.class, int.class)
                .getExceptionTypes()).equals(List.of(java.util.NoSuchElementException.class)));
    }

    private static void insides() {
        Set<String> names = new HashSet<>();
        for (String method : FACE) {
            names.add(method.substring(0, method.indexOf('(')));
        }
        Class<?>[] inside = OtterWrits.class.getDeclaredClasses();
        Check.yes("some twelve classes", inside.length + 1 <= 12);
        fields(OtterWrits.class);
        for (Class<?> c : inside) {
            Check.yes(c.getName() + " is static", Modifier.isStatic(c.getModifiers()) && !Modifier.isPublic(c.getModifiers()));
            fields(c);
            for (Method m : c.getDeclaredMethods()) {
                Check.no(c.getName() + "." + m.getName() + " has a name of the face", names.contains(m.getName()));
                Check.yes(m.getName() + " has few parameters", m.getParameterCount() <= 7);
            }
        }
    }

    private static void fields(Class<?> c) {
        int own = 0;
        for (Field f : c.getDeclaredFields()) {
            int m = f.getModifiers();
            own += Modifier.isStatic(m) ? 0 : 1;
            Check.yes(f.getName() + " is final if it is static", !Modifier.isStatic(m) || Modifier.isFinal(m));
        }
        Check.yes(c.getName() + " has some twenty fields at most", own <= 20);
    }

    private static void text() throws IOException {
        String source = Files.readString(SOURCE);
        String bare = source.replaceAll("(?s)/\\*.*?\\*/", "").replaceAll("//[^\n]*", "");
        String[] forbidden = {"->", "::", "\\bsynchronized\\b", "\\bassert\\b", "\\bfinally\\b", "\\btry\\b", "\\bcatch\\b", "Exact\\(",
            "\\bdouble\\b", "\\bfloat\\b", "\\bpackage\\b", "\\benum\\b.*values\\(", "\\bequals\\(", "hashCode", "toString", "static\\s*\\{",
            "System\\.(?!arraycopy)", "Math\\.(?!min|max|floorMod)", "Integer\\.(?!bitCount)", "\\bprotected\\b", "\\bwhile\\s*\\(true\\)"};
        for (String each : forbidden) {
            Matcher m = Pattern.compile(each).matcher(bare);
            Check.no("the text has " + each, m.find());
        }
        Matcher imports = Pattern.compile("import [^;]+;").matcher(bare);
        int n = 0;
        while (imports.find()) {
            Check.yes(imports.group(), imports.group().equals("import java.util.NoSuchElementException;"));
            n++;
        }
        Check.same("imports", n, 1);
        methodLengths(source);
        for (int i = 0; i < source.length(); i++) {
            Check.yes("a sign of 1 to 127 at " + i, source.charAt(i) >= 1 && source.charAt(i) <= 127);
        }
    }

    /** A method's end is the brace as deep as its head: the file is kept in that form. */
    private static void methodLengths(String source) {
        String[] lines = source.split("\n");
        for (int i = 0; i < lines.length; i++) {
            Matcher head = Pattern.compile("^( {4}| {8})[a-z].*\\) (throws \\w+ )?\\{$").matcher(lines[i]);
            if (head.find()) {
                int end = i;
                while (end < lines.length - 1 && !lines[end].equals(head.group(1) + "}")) {
                    end++;
                }
                Check.yes(lines[i].trim() + " is short", end - i < 60);
            }
        }
    }

    /** What one object holds is counted, arrays too: it must leave room for many in one run. */
    private static void room() throws Exception {
        long[] held = new long[2];
        weigh(new OtterWrits(), new java.util.IdentityHashMap<>(), held);
        Check.yes("objects: " + held[0], held[0] <= 300);
        Check.yes("fields and elements: " + held[1], held[1] <= 7000);
    }

    private static void weigh(Object o, java.util.Map<Object, Object> known, long[] held) throws Exception {
        if (o == null || known.put(o, o) != null) {
            return;
        }
        held[0]++;
        Class<?> c = o.getClass();
        if (c.isArray()) {
            int length = java.lang.reflect.Array.getLength(o);
            held[1] += length;
            for (int i = 0; i < length && !c.getComponentType().isPrimitive(); i++) {
                weigh(java.lang.reflect.Array.get(o, i), known, held);
            }
            return;
        }
        for (Field f : c.getDeclaredFields()) {
            if (!Modifier.isStatic(f.getModifiers())) {
                held[1]++;
                f.setAccessible(true);
                if (!f.getType().isPrimitive()) {
                    weigh(f.get(o), known, held);
                }
            }
        }
    }
}
