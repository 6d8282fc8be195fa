import java.io.PrintWriter;
import java.io.StringWriter;
import java.lang.reflect.Constructor;
import java.lang.reflect.Field;
import java.lang.reflect.Method;
import java.lang.reflect.Modifier;
import java.nio.file.Files;
import java.nio.file.Path;
import java.util.ArrayList;
import java.util.HashSet;
import java.util.List;
import java.util.Map;
import java.util.Optional;
import java.util.Set;
import java.util.TreeMap;
import java.util.TreeSet;
import java.util.regex.Matcher;
import java.util.regex.Pattern;
import java.util.spi.ToolProvider;

/** Some of the rules of LANGUAGE.md, looked at in the source and in the compiled class. */
public final class LanguageTest {
    private static final Set<String> FACE = Set.of("formula(0)", "pure(4)", "part(4)", "beside(2)", "size(2)",
        "told(4)", "drop(0)", "set(2)", "cell(2)", "value(1)", "holds(1)", "held(0)", "fits(1)", "run(4)", "is(1)",
        "says(2)", "step(4)", "differ(2)", "count(1)");
    private static final Set<String> CONSTANTS = Set.of("BAD", "FULL", "MANY", "SPENT", "FAULT");
    private static final String[] FORBIDDEN = {"\\bthrow\\b", "\\bthrows\\b", "\\btry\\b", "\\bcatch\\b",
        "\\bsynchronized\\b", "\\bassert\\b", "->", "::", "\\bimport\\b", "\\bpackage\\b", "static\\s*\\{", "Exact\\b",
        "\\bObject\\b", "\\bnull\\s*\\)\\s*\\.", "hashCode", "\\bnative\\b", "\\bvolatile\\b", "\\bThread\\b"};

    // What stands in rule 4 and is used; Object's constructor is called by each constructor.
    private static final Set<String> LIBRARY = Set.of("java/lang/Object.<init>", "java/lang/Integer.bitCount",
        "java/lang/Math.max", "java/lang/System.arraycopy");
    private static final int DEEPEST = 8;

    private static int wrong = 0;

    public static void main(String[] args) throws Exception {
        Path root = Path.of(args.length > 0 ? args[0] : ".");
        source(Files.readString(root.resolve("src/main/java/HeapLaw.java")));
        face();
        inside();
        Optional<ToolProvider> javap = ToolProvider.findFirst("javap");
        if (javap.isPresent()) {
            compiled(disassembled(javap.get()));
        } else {
            System.out.println("this Java kit has no javap: the calls were not looked at");
        }
        System.out.println(wrong == 0 ? "the rules looked at are kept" : wrong + " rules are broken");
        if (wrong != 0) {
            System.exit(1);
        }
    }

    private static void due(boolean so, String what) {
        if (!so) {
            wrong++;
            System.out.println("not so: " + what);
        }
    }

    private static void source(String text) {
        String bare = text.replaceAll("(?s)/\\*.*?\\*/", " ").replaceAll("//[^\n]*", " ");
        for (String word : FORBIDDEN) {
            Matcher found = Pattern.compile(word).matcher(bare);
            due(!found.find(), "no " + word + " in the source");
        }
        Matcher statics = Pattern.compile("\\bstatic\\s+(?!final\\b)\\w+(\\[\\])*\\s+\\w+\\s*[=;]").matcher(bare);
        due(!statics.find(), "static fields are final");
        longMethods(text);
    }

    /** A method begins at a line of 4 or 8 spaces that ends with ") {" and ends at the brace below it. */
    private static void longMethods(String text) {
        String[] lines = text.split("\n");
        for (int i = 0; i < lines.length; i++) {
            Matcher start = Pattern.compile("^( {4}| {8})\\w[^=]*\\) \\{$").matcher(lines[i]);
            if (start.matches()) {
                int end = i;
                while (end < lines.length && !lines[end].equals(start.group(1) + "}")) {
                    end++;
                }
                due(end - i < 60, "a short method at line " + (i + 1));
            }
        }
    }

    private static void face() {
        due(Modifier.isFinal(HeapLaw.class.getModifiers()) && Modifier.isPublic(HeapLaw.class.getModifiers()),
            "a public final class");
        Set<String> methods = new TreeSet<>();
        for (Method m : HeapLaw.class.getDeclaredMethods()) {
            if (!Modifier.isPrivate(m.getModifiers())) {
                due(m.getReturnType() == int.class && Modifier.isPublic(m.getModifiers()), m.getName() + " is public int");
                methods.add(m.getName() + "(" + m.getParameterCount() + ")");
            }
        }
        due(methods.equals(new TreeSet<>(FACE)), "the face, not " + methods);
        Set<String> fields = new TreeSet<>();
        for (Field f : HeapLaw.class.getDeclaredFields()) {
            if (!Modifier.isPrivate(f.getModifiers())) {
                fields.add(f.getName());
            }
        }
        due(fields.equals(new TreeSet<>(CONSTANTS)), "the constants, not " + fields);
        Constructor<?>[] made = HeapLaw.class.getDeclaredConstructors();
        due(made.length == 1 && made[0].getParameterCount() == 0, "one constructor");
    }

    private static void inside() {
        List<Class<?>> all = new ArrayList<>();
        all.add(HeapLaw.class);
        for (Class<?> c : HeapLaw.class.getDeclaredClasses()) {
            due(Modifier.isStatic(c.getModifiers()) && !Modifier.isPublic(c.getModifiers()), c + " is static, not public");
            all.add(c);
        }
        due(all.size() <= 12, "at most twelve classes");
        for (Class<?> c : all) {
            int fields = 0;
            for (Field f : c.getDeclaredFields()) {
                fields += Modifier.isStatic(f.getModifiers()) ? 0 : 1;
            }
            due(fields <= 20, c + " has at most twenty fields");
            for (Method m : c.getDeclaredMethods()) {
                due(m.getParameterCount() <= 7, m + " takes at most seven parameters");
                boolean ofFace = c == HeapLaw.class && Modifier.isPublic(m.getModifiers());
                for (String name : FACE) {
                    due(ofFace || !name.startsWith(m.getName() + "("), m + " bears no name of the face");
                }
            }
        }
    }

    /** All classes as javap, a part of most Java kits, shows them. */
    private static String disassembled(ToolProvider javap) {
        List<String> args = new ArrayList<>(List.of("-p", "-c", "-cp", System.getProperty("java.class.path"), "HeapLaw"));
        for (Class<?> c : HeapLaw.class.getDeclaredClasses()) {
            args.add(c.getName());
        }
        StringWriter shown = new StringWriter();
        PrintWriter out = new PrintWriter(shown);
        due(javap.run(out, out, args.toArray(new String[0])) == 0, "javap shows the classes");
        return shown.toString();
    }

    private static void compiled(String shown) {
        Map<String, Set<String>> calls = new TreeMap<>();
        Set<String> privates = new HashSet<>();
        String owner = "";
        String method = "";
        for (String line : shown.split("\\R")) {
            Matcher head = Pattern.compile("^(?:\\w+ )*class (HeapLaw[\\w$]*) .*\\{$").matcher(line);
            Matcher start = Pattern.compile("^  (?:[\\w$\\[\\]]+ )*([\\w$]+)\\(.*\\);$").matcher(line);
            Matcher call = Pattern.compile("invoke.*// Method (?:([\\w$/]+)\\.)?\"?([\\w$<>]+)\"?:").matcher(line);
            if (head.matches()) {
                owner = head.group(1);
            } else if (start.matches()) {
                method = owner + "." + (start.group(1).equals(owner) ? "<init>" : start.group(1));
                calls.put(method, new TreeSet<>());
                if (line.startsWith("  private ")) {
                    privates.add(method);
                }
            } else if (call.find()) {
                calls.get(method).add((call.group(1) == null ? owner : call.group(1)) + "." + call.group(2));
            } else if (line.matches(".*\\b(new|newarray|anewarray|multianewarray)\\b.*")) {
                due(method.endsWith(".<init>"), "rows are made in constructors alone, not in " + method);
            }
        }
        due(calls.size() > 60 && calls.get("HeapLaw.step").size() > 2, "calls are seen, not " + calls.size());
        judgeCalls(calls);
        for (String from : calls.keySet()) {
            due(privates.contains(from) || !reaches(from, from, calls, new HashSet<>()),
                "rule 8: what calls itself is private, and so is " + from);
        }
    }

    private static boolean reaches(String from, String to, Map<String, Set<String>> calls, Set<String> seen) {
        for (String next : calls.getOrDefault(from, Set.of())) {
            if (next.equals(to) || seen.add(next) && reaches(next, to, calls, seen)) {
                return true;
            }
        }
        return false;
    }

    private static void judgeCalls(Map<String, Set<String>> calls) {
        for (String from : calls.keySet()) {
            for (String to : calls.get(from)) {
                due(calls.containsKey(to) || LIBRARY.contains(to), from + " calls what rule 4 has, not " + to);
            }
            List<String> way = deepest(from, calls, new HashSet<>());
            due(way.size() <= DEEPEST, "rule 11: calls that are no recursion go at most eight deep, not " + way);
        }
    }

    /** The longest way of calls from a method, none of them twice. */
    private static List<String> deepest(String from, Map<String, Set<String>> calls, Set<String> open) {
        List<String> longest = new ArrayList<>();
        open.add(from);
        for (String to : calls.get(from)) {
            if (calls.containsKey(to) && !open.contains(to)) {
                List<String> way = deepest(to, calls, open);
                longest = way.size() > longest.size() ? way : longest;
            }
        }
        open.remove(from);
        longest.add(0, from);
        return longest;
    }
}
