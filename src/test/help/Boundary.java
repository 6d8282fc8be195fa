import java.lang.reflect.InvocationTargetException;
import java.lang.reflect.Method;
import java.nio.file.Files;
import java.nio.file.Path;
import java.util.Arrays;
import java.util.Comparator;

/** What the boundary tests judge with. Each of their tests is a static method with a Sentence. */
abstract class Boundary {
    /** Numbers that are no formula, term, name, address, act, how or what in any call. */
    static final int[] WILD = {Integer.MIN_VALUE, Integer.MIN_VALUE + 1, -65536, -257, -64, -60, -16, -10, -8, -7, -6,
        -5, -4, -3, -2, 60, 61, 64, 128, 256, 257, 512, 1024, 65536, 1 << 30, Integer.MAX_VALUE - 1, Integer.MAX_VALUE};

    private static int wrong;
    private static String now = "";

    /** Runs all tests of a class; each one's sentence must stand in the document. */
    static void judge(Class<?> tests, String[] args) throws Exception {
        Path doc = Path.of(args.length > 0 ? args[0] : ".").resolve("../shared/DOC.md");
        String document = Files.readString(doc);
        Method[] methods = tests.getDeclaredMethods();
        Arrays.sort(methods, Comparator.comparing(Method::getName));
        int ran = 0;
        for (Method test : methods) {
            Sentence sentence = test.getAnnotation(Sentence.class);
            if (sentence != null) {
                now = test.getName() + " (\"" + sentence.value() + "\")";
                due("the sentence stands in the document", document.contains(sentence.value()), true);
                runOne(test);
                ran++;
            }
        }
        System.out.println(wrong == 0 ? ran + " boundaries hold" : wrong + " answers are not as due");
        if (wrong != 0 || ran == 0) {
            System.exit(1);
        }
    }

    private static void runOne(Method test) throws Exception {
        try {
            test.setAccessible(true);
            test.invoke(null);
        } catch (InvocationTargetException thrown) {
            wrong++;
            System.out.println(now + ": threw " + thrown.getCause());
        }
    }

    static <T> void due(String what, T got, T want) {
        if (!got.equals(want)) {
            wrong++;
            System.out.println(now + ": " + what + ": " + got + ", due is " + want);
        }
    }

    /** Each call, on an object of its own, has this answer. */
    static void answers(Given given, int want, Given.Call... calls) {
        for (int i = 0; i < calls.length; i++) {
            due("call " + i + " answered", calls[i].on(given.led()), want);
        }
    }

    /** Each call, on an object of its own, has this answer, and nothing that can be seen changes. */
    static void changesNothing(Given given, int want, Given.Call... calls) {
        String before = given.look();
        for (int i = 0; i < calls.length; i++) {
            due("call " + i + " answered", calls[i].on(given.led()), want);
            due("state behind call " + i, given.look(calls[i]), before);
        }
    }

    /** A call has this answer, and then the formula with this number is this one. */
    static void makes(Given given, int want, Given.Call call, int f, String text) {
        due("answer", call.on(given.led()), want);
        due("formula " + f, Given.shown(given.led(call), f), text);
    }

    static void fits(Given memory, String formula, int want) {
        Given given = memory.copy().formula(formula);
        int f = given.lastFormula();
        due("fits [" + formula + "]", given.led().fits(f), want);
    }

    static void is(String formula, int want) {
        Given given = Given.formulas(formula);
        due("is [" + formula + "]", given.led().is(0), want);
        due("formula", given.look(h -> h.is(0)), given.look());
    }

    static void says(String f, String g, int want) {
        Given given = Given.formulas(f, g);
        due("[" + f + "] says [" + g + "]", given.led().says(0, 1), want);
        due("formulas", given.look(h -> h.says(0, 1)), given.look());
    }

    /** The formulas that come of a step, in their order, and nothing else. */
    static void steps(String from, int act, int x, int y, String... to) {
        Given given = Given.formulas(from);
        Given.Call step = h -> h.step(0, act, x, y);
        String what = "[" + from + "] by " + act + " " + x + " " + y;
        due(what, step.on(given.led()), to.length);
        StringBuilder want = new StringBuilder(given.look());
        for (String text : to) {
            want.append(" [").append(text).append(']');
        }
        due(what, given.look(step), want.toString());
    }

    static void stepsNot(String from, int act, int x, int y, int want) {
        Given given = Given.formulas(from);
        Given.Call step = h -> h.step(0, act, x, y);
        String what = "[" + from + "] by " + act + " " + x + " " + y;
        due(what, step.on(given.led()), want);
        due(what, given.look(step), given.look());
    }

    /** The memory that differ() finds: what the cells at 1, 2, 3 hold, then the values. */
    static void parts(String f, String g, int... found) {
        Given given = Given.cells(1, 2, 3, 4, 5, 6, 7, 8, 9).values(9, 9, 9, 9).formula(f).formula(g);
        Given.Call differ = h -> h.differ(0, 1);
        String what = "differ [" + f + "] [" + g + "]";
        due(what, differ.on(given.led()), 1);
        Given memory = Given.cells(found[0], found[1], found[2]).values(found[3], found[4], found[5], found[6]);
        due(what, Given.memoryOf(given.led(differ)), Given.memoryOf(memory.led()));
    }

    /** differ() finds none, and leaves the memory as it was. */
    static void partsNot(String f, String g) {
        Given given = Given.cells(1, 2, 3, 4, 5, 6, 7, 8, 9).values(9, 9, 9, 9).formula(f).formula(g);
        Given.Call differ = h -> h.differ(0, 1);
        due("differ [" + f + "] [" + g + "]", differ.on(given.led()), 0);
        due("memory", Given.memoryOf(given.led(differ)), Given.memoryOf(given.led()));
        due("count(1)", given.led(differ).count(1), 1);
    }

    /** One word so many times. */
    static String repeat(String word, int times) {
        return (word + " ").repeat(times).trim();
    }

    /** Texts put together, without those that are empty. */
    static String all(String... texts) {
        StringBuilder out = new StringBuilder();
        for (String text : texts) {
            out.append(out.length() == 0 || text.isEmpty() ? "" : " ").append(text);
        }
        return out.toString();
    }
}
