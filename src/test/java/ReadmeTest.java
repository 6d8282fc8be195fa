import java.lang.reflect.Field;
import java.lang.reflect.Method;
import java.lang.reflect.Modifier;
import java.nio.file.Files;
import java.nio.file.Path;
import java.util.regex.Matcher;
import java.util.regex.Pattern;

/** README.md tells the truth: its calls answer what it says, and it tells of each call and constant. */
public final class ReadmeTest {
    private static final Pattern CALL = Pattern.compile("law\\.(\\w+)\\(([-\\d, ]*)\\);\\s*// (-?\\d+|[A-Z]+)\\b.*");

    private static int wrong = 0;

    public static void main(String[] args) throws Exception {
        String text = Files.readString(Path.of(args.length > 0 ? args[0] : ".").resolve("README.md"));
        int calls = calls(text);
        due("calls", calls > 10, true);
        tables(text);
        System.out.println(wrong == 0 ? "README.md is right in " + calls + " calls" : wrong + " things are not as due");
        if (wrong != 0) {
            System.exit(1);
        }
    }

    private static void due(String what, Object got, Object want) {
        if (!got.equals(want)) {
            wrong++;
            System.out.println(what + ": " + got + ", due is " + want);
        }
    }

    private static int calls(String text) throws Exception {
        HeapLaw law = new HeapLaw();
        int calls = 0;
        for (String line : text.split("\\R")) {
            Matcher call = CALL.matcher(line);
            due("a call with its answer: " + line, call.matches(), line.startsWith("law."));
            if (call.matches()) {
                due(line, answer(law, call.group(1), call.group(2)), number(call.group(3)));
                calls++;
            }
        }
        return calls;
    }

    private static Object answer(HeapLaw law, String name, String written) throws Exception {
        String[] words = written.isEmpty() ? new String[0] : written.split(", ");
        Class<?>[] types = new Class<?>[words.length];
        Object[] with = new Object[words.length];
        for (int i = 0; i < words.length; i++) {
            types[i] = int.class;
            with[i] = Integer.valueOf(words[i]);
        }
        return HeapLaw.class.getMethod(name, types).invoke(law, with);
    }

    private static Object number(String word) throws Exception {
        return Character.isLetter(word.charAt(0)) ? HeapLaw.class.getField(word).get(null) : Integer.valueOf(word);
    }

    private static void tables(String text) throws Exception {
        for (Method m : HeapLaw.class.getDeclaredMethods()) {
            if (Modifier.isPublic(m.getModifiers())) {
                String with = "\\w+" + ", \\w+".repeat(Math.max(0, m.getParameterCount() - 1));
                Pattern row = Pattern.compile("\\| `" + m.getName() + "\\(" + (m.getParameterCount() == 0 ? "" : with) + "\\)` \\|");
                due("a row for " + m.getName(), row.matcher(text).find(), true);
            }
        }
        for (Field f : HeapLaw.class.getFields()) {
            due("a row for " + f.getName(), text.contains("| `" + f.getName() + "` | " + f.get(null) + " |"), true);
        }
    }
}
