/** For each promise of the document: ordinary inputs, the edges it names, and wrong inputs. */
public final class PromiseTest {
    private static int wrong = 0;
    private static String promise = "";

    public static void main(String[] args) {
        newObject();
        formula();
        pure();
        part();
        beside();
        sizeAndTold();
        drop();
        set();
        cell();
        valueHoldsHeld();
        fits();
        fitsWithSpares();
        run();
        runWrong();
        is();
        says();
        saysInside();
        stepPlain();
        stepOpened();
        stepOrder();
        stepSpent();
        stepFull();
        stepWrong();
        stepWithoutY();
        differ();
        differMany();
        count();
        wildArguments();
        System.out.println(wrong == 0 ? "all promises hold" : wrong + " answers are not as due");
        if (wrong != 0) {
            System.exit(1);
        }
    }

    private static void due(String call, int got, int want) {
        if (got != want) {
            wrong++;
            System.out.println(promise + ": " + call + " answered " + got + ", due is " + want);
        }
    }

    /** A formula from a text: "1=2 1!0 1>2 1~0" is EQUAL, OTHER, CELL, ROW. */
    private static int make(HeapLaw h, String text) {
        int f = h.formula();
        for (String word : text.trim().split(" +")) {
            if (!word.isEmpty()) {
                int how = "=>".indexOf(word.charAt(1)) >= 0 ? 0 : 1;
                int x = word.charAt(0) - '0';
                int y = word.charAt(2) - '0';
                int now = "=!".indexOf(word.charAt(1)) >= 0 ? h.pure(f, how, x, y) : h.part(f, how, x, y);
                due("make " + text, now < 0 ? now : 1, 1);
            }
        }
        return f;
    }

    private static String shown(HeapLaw h, int f) {
        StringBuilder out = new StringBuilder();
        for (int which = 0; which < 2; which++) {
            for (int i = 0; i < h.size(f, which); i++) {
                out.append(out.length() == 0 ? "" : " ").append(h.told(f, which, i, 1));
                out.append((which == 0 ? "=!" : ">~").charAt(h.told(f, which, i, 0)));
                out.append(h.told(f, which, i, 2));
            }
        }
        return out.toString();
    }

    private static void dueShown(HeapLaw h, int f, String want) {
        String got = shown(h, f);
        if (!got.equals(want)) {
            wrong++;
            System.out.println(promise + ": formula " + f + " is " + got + ", due is " + want);
        }
    }

    /** Steps a new formula and looks at all that comes of it. */
    private static void dueStep(String from, int act, int x, int y, String... want) {
        HeapLaw h = new HeapLaw();
        int f = make(h, from);
        due("step " + from + " by " + act + " " + x + " " + y, h.step(f, act, x, y), want.length);
        due("count(0)", h.count(0), want.length + 1);
        for (int i = 0; i < want.length; i++) {
            dueShown(h, f + 1 + i, want[i]);
        }
        dueShown(h, f, from);
    }

    private static void dueNoStep(String from, int act, int x, int y, int want) {
        HeapLaw h = new HeapLaw();
        int f = make(h, from);
        due("step " + from + " by " + act + " " + x + " " + y, h.step(f, act, x, y), want);
        due("count(0)", h.count(0), 1);
        dueShown(h, f, from);
    }

    private static void dueSays(String f, String g, int want) {
        HeapLaw h = new HeapLaw();
        due(f + " says " + g, h.says(make(h, f), make(h, g)), want);
    }

    private static void dueIs(String f, int want) {
        HeapLaw h = new HeapLaw();
        due("is " + f, h.is(make(h, f)), want);
    }

    private static void newObject() {
        promise = "1 new object";
        HeapLaw h = new HeapLaw();
        due("count(0)", h.count(0), 0);
        due("count(1)", h.count(1), 0);
        due("held()", h.held(), 0);
        for (int i = 1; i <= 4; i++) {
            due("value", h.value(i), 0);
        }
        for (int i = 1; i <= 9; i++) {
            due("holds", h.holds(i), -1);
        }
        due("size(0, 0)", h.size(0, 0), HeapLaw.BAD);
    }

    private static void formula() {
        promise = "2 formula";
        HeapLaw h = new HeapLaw();
        for (int i = 0; i < 60; i++) {
            due("formula()", h.formula(), i);
        }
        due("formula()", h.formula(), HeapLaw.FULL);
        due("count(0)", h.count(0), 60);
        h.part(59, 0, 1, 2);
        h.pure(59, 0, 1, 2);
        h.drop();
        due("formula()", h.formula(), 59);
        due("a new one has no PURE parts", h.size(59, 0), 0);
        due("a new one has no PARTS", h.size(59, 1), 0);
    }

    private static void pure() {
        promise = "3 pure";
        HeapLaw h = new HeapLaw();
        due("no formula", h.pure(0, 0, 1, 2), HeapLaw.BAD);
        h.formula();
        due("another how", h.pure(0, 2, 1, 2), HeapLaw.BAD);
        due("another how", h.pure(0, -1, 1, 2), HeapLaw.BAD);
        due("x", h.pure(0, 0, 8, 2), HeapLaw.BAD);
        due("x", h.pure(0, 0, -1, 2), HeapLaw.BAD);
        due("y", h.pure(0, 0, 1, 8), HeapLaw.BAD);
        due("y", h.pure(0, 0, 1, -1), HeapLaw.BAD);
        due("f", h.pure(1, 0, 1, 1), HeapLaw.BAD);
        due("f", h.pure(-1, 0, 1, 1), HeapLaw.BAD);
        due("size", h.size(0, 0), 0);
        for (int i = 1; i <= 16; i++) {
            // The same once more counts: only a step leaves out what stands there.
            due("pure", h.pure(0, 0, 7, 0), i);
        }
        due("pure", h.pure(0, 0, 7, 0), HeapLaw.FULL);
        due("BAD goes first", h.pure(0, 0, 8, 0), HeapLaw.BAD);
        due("size", h.size(0, 0), 16);
    }

    private static void part() {
        promise = "4 part";
        HeapLaw h = new HeapLaw();
        due("no formula", h.part(0, 0, 1, 2), HeapLaw.BAD);
        h.formula();
        due("another how", h.part(0, 2, 1, 2), HeapLaw.BAD);
        due("another how", h.part(0, -1, 1, 2), HeapLaw.BAD);
        due("x", h.part(0, 0, 8, 2), HeapLaw.BAD);
        due("y", h.part(0, 0, 1, -1), HeapLaw.BAD);
        for (int i = 1; i <= 10; i++) {
            due("part", h.part(0, 1, 0, 7), i);
        }
        due("part", h.part(0, 1, 0, 7), HeapLaw.FULL);
        due("BAD goes first", h.part(0, 1, 0, 8), HeapLaw.BAD);
        due("size", h.size(0, 1), 10);
    }

    private static void beside() {
        promise = "5 beside";
        HeapLaw h = new HeapLaw();
        int f = make(h, "1=2 1!0 1>2");
        int g = make(h, "1=2 3=4 2~0 3>5");
        due("beside", h.beside(f, g), 2);
        dueShown(h, 2, "1=2 1!0 1=2 3=4 1>2 2~0 3>5");
        due("of itself", h.beside(f, f), 3);
        dueShown(h, 3, "1=2 1!0 1=2 1!0 1>2 1>2");
        dueShown(h, f, "1=2 1!0 1>2");
        due("BAD", h.beside(0, 4), HeapLaw.BAD);
        due("BAD", h.beside(-1, 0), HeapLaw.BAD);
        int six = make(h, "1~0 1~0 1~0 1~0 1~0 1~0");
        int five = make(h, "1~0 1~0 1~0 1~0 1~0");
        due("too many PARTS", h.beside(six, five), HeapLaw.FULL);
        due("just enough", h.beside(five, five), 6);
        due("ten", h.size(6, 1), 10);
        int nine = make(h, "1=1 1=1 1=1 1=1 1=1 1=1 1=1 1=1 1=1");
        due("too many PURE parts", h.beside(nine, nine), HeapLaw.FULL);
        due("count(0)", h.count(0), 8);
        while (h.count(0) < 60) {
            h.formula();
        }
        due("too many formulas", h.beside(f, g), HeapLaw.FULL);
        due("BAD goes first", h.beside(60, g), HeapLaw.BAD);
    }

    private static void sizeAndTold() {
        promise = "6 size, 7 told";
        HeapLaw h = new HeapLaw();
        due("no formula", h.size(0, 0), HeapLaw.BAD);
        int f = make(h, "1=2 3!0 4=7 1>6 0~5");
        due("size", h.size(f, 0), 3);
        due("size", h.size(f, 1), 2);
        due("what", h.size(f, 2), HeapLaw.BAD);
        due("what", h.size(f, -1), HeapLaw.BAD);
        int[][] want = {{0, 1, 2}, {1, 3, 0}, {0, 4, 7}, {0, 1, 6}, {1, 0, 5}};
        for (int i = 0; i < 5; i++) {
            for (int what = 0; what < 3; what++) {
                due("told", h.told(f, i < 3 ? 0 : 1, i < 3 ? i : i - 3, what), want[i][what]);
            }
        }
        due("i", h.told(f, 0, 3, 0), HeapLaw.BAD);
        due("i", h.told(f, 0, -1, 0), HeapLaw.BAD);
        due("i", h.told(f, 1, 2, 0), HeapLaw.BAD);
        due("which", h.told(f, 2, 0, 0), HeapLaw.BAD);
        due("which", h.told(f, -1, 0, 0), HeapLaw.BAD);
        due("what", h.told(f, 0, 0, 3), HeapLaw.BAD);
        due("what", h.told(f, 0, 0, -1), HeapLaw.BAD);
        due("f", h.told(f + 1, 0, 0, 0), HeapLaw.BAD);
    }

    private static void drop() {
        promise = "8 drop";
        HeapLaw h = new HeapLaw();
        due("none", h.drop(), HeapLaw.BAD);
        make(h, "1=2");
        make(h, "1>2");
        due("drop", h.drop(), 1);
        due("gone", h.size(1, 1), HeapLaw.BAD);
        dueShown(h, 0, "1=2");
        due("drop", h.drop(), 0);
        due("drop", h.drop(), HeapLaw.BAD);
    }

    private static void set() {
        promise = "9 set";
        HeapLaw h = new HeapLaw();
        due("set", h.set(1, 9), 0);
        due("set", h.set(1, 0), 9);
        due("set", h.set(4, 5), 0);
        due("name", h.set(0, 1), HeapLaw.BAD);
        due("name", h.set(5, 1), HeapLaw.BAD);
        due("a", h.set(4, 10), HeapLaw.BAD);
        due("a", h.set(4, -1), HeapLaw.BAD);
        due("value", h.value(4), 5);
    }

    private static void cell() {
        promise = "10 cell";
        HeapLaw h = new HeapLaw();
        due("cell", h.cell(9, 9), -1);
        due("cell", h.cell(9, 0), 9);
        due("cell", h.cell(9, -1), 0);
        due("held", h.held(), 0);
        due("cell", h.cell(9, -1), -1);
        due("cell", h.cell(1, 3), -1);
        due("address", h.cell(0, 3), HeapLaw.BAD);
        due("address", h.cell(10, 3), HeapLaw.BAD);
        due("a", h.cell(1, 10), HeapLaw.BAD);
        due("a", h.cell(1, -2), HeapLaw.BAD);
        due("holds", h.holds(1), 3);
        due("held", h.held(), 1);
    }

    private static void valueHoldsHeld() {
        promise = "11 value, 12 holds, 13 held";
        HeapLaw h = new HeapLaw();
        h.set(3, 7);
        due("value", h.value(3), 7);
        due("value", h.value(0), HeapLaw.BAD);
        due("value", h.value(5), HeapLaw.BAD);
        h.cell(2, 0);
        h.cell(7, 4);
        due("holds", h.holds(2), 0);
        due("holds", h.holds(7), 4);
        due("holds", h.holds(3), -1);
        due("holds", h.holds(0), -1);
        due("holds", h.holds(10), -1);
        due("held", h.held(), 2);
        h.cell(7, 5);
        due("held", h.held(), 2);
        h.cell(7, -1);
        due("held", h.held(), 1);
    }

    /** Cells 1 to 2 to 3 to NIL, and 4 to itself; names 1, 2, 3, 4 at 1, 3, 4, 0. */
    private static HeapLaw memory() {
        HeapLaw h = new HeapLaw();
        h.cell(1, 2);
        h.cell(2, 3);
        h.cell(3, 0);
        h.cell(4, 4);
        h.set(1, 1);
        h.set(2, 3);
        h.set(3, 4);
        return h;
    }

    private static void dueFits(HeapLaw h, String f, int want) {
        due("fits " + f, h.fits(make(h, f)), want);
        h.drop();
    }

    private static void fits() {
        promise = "14 fits";
        HeapLaw h = memory();
        due("no formula", h.fits(0), HeapLaw.BAD);
        dueFits(h, "1~0 3>3", 1);
        dueFits(h, "1~4 3>3", 1);
        dueFits(h, "1~2 2>0 3>3", 1);
        dueFits(h, "3>3 2~0 1~2", 1);
        dueFits(h, "1~2 2~4 3>3 3~3 4~0", 1);
        dueFits(h, "1~0", 0);
        dueFits(h, "1~0 3~3", 0);
        dueFits(h, "1~0 3~0", 0);
        dueFits(h, "1~0 2>0 3>3", 0);
        dueFits(h, "1~0 3>3 1~0", 0);
        dueFits(h, "1>2 2>0 3>3", 0);
        dueFits(h, "1~0 3>3 4>0", 0);
        dueFits(h, "1!2 4=0 1~0 3>3", 1);
        dueFits(h, "1=2 1~0 3>3", 0);
        dueFits(h, "4!0 1~0 3>3", 0);
        dueFits(h, "", 0);
        dueFits(new HeapLaw(), "", 1);
        dueFits(new HeapLaw(), "1~2 0~0 4=3", 1);
        dueFits(new HeapLaw(), "0>0", 0);
    }

    private static void fitsWithSpares() {
        promise = "14 fits, SPARE names";
        HeapLaw h = memory();
        dueFits(h, "1>5 5>2 2>0 3>3", 1);
        dueFits(h, "1>5 5>6 6>7 7!7 3>3", 0);
        dueFits(h, "1>5 5>6 6>7 3>7", 0);
        dueFits(h, "1>7 7>6 6>0 3>5 5=3", 1);
        dueFits(h, "1~5 5~6 6~0 3>7", 1);
        dueFits(h, "5~0 6>6", 1);
        dueFits(h, "5!0 5!1 5!2 5!3 1~0 3>3", 1);
        dueFits(h, "5>6 6>7 7>0 3>3 5=2", 0);
        // Only the ten addresses serve as values.
        HeapLaw full = new HeapLaw();
        for (int i = 1; i <= 9; i++) {
            full.cell(i, i == 9 ? 0 : i + 1);
        }
        full.set(1, 1);
        dueFits(full, "1~0", 1);
        dueFits(full, "1~5 5~0 5!0", 1);
        dueFits(full, "1~0 5!6 6!7 5!7", 1);
        dueFits(full, "1~5 5>6 6~0 6!0 5!1 6=2", 0);
        for (int a = 0; a <= 9; a++) {
            HeapLaw one = new HeapLaw();
            one.set(2, 4);
            one.cell(4, a);
            dueFits(one, "2>6", 1);
            dueFits(one, "7>6 7=2", 1);
        }
    }

    private static void run() {
        promise = "15 run";
        HeapLaw h = memory();
        due("x becomes y", h.run(0, 4, 2, 0), 1);
        due("value", h.value(4), 3);
        due("x becomes x", h.run(0, 4, 4, 0), 1);
        due("value", h.value(4), 3);
        due("x becomes NIL", h.run(1, 4, 0, 99), 1);
        due("value", h.value(4), 0);
        due("a new cell", h.run(2, 4, 0, 9), 1);
        due("value", h.value(4), 5);
        due("holds", h.holds(5), 9);
        due("let go", h.run(3, 4, 0, 0), 1);
        due("holds", h.holds(5), -1);
        due("value", h.value(4), 5);
        due("let go again", h.run(3, 4, 0, 0), HeapLaw.FAULT);
        due("read", h.run(4, 4, 1, 0), 1);
        due("value", h.value(4), 2);
        due("read on", h.run(4, 4, 4, 0), 1);
        due("value", h.value(4), 3);
        due("write", h.run(5, 4, 1, 0), 1);
        due("holds", h.holds(3), 1);
        due("same", h.run(6, 4, 2, 0), 1);
        due("same", h.run(6, 4, 1, 0), 0);
        due("other", h.run(7, 4, 2, 0), 0);
        due("other", h.run(7, 4, 1, 0), 1);
        h.run(3, 1, 0, 0);
        due("the least free address", h.run(2, 2, 0, 0), 1);
        due("value", h.value(2), 1);
    }

    private static void runWrong() {
        promise = "15 run, wrong";
        HeapLaw h = memory();
        due("at NIL", h.run(3, 4, 1, 0), HeapLaw.FAULT);
        due("at NIL", h.run(4, 1, 4, 0), HeapLaw.FAULT);
        due("at NIL", h.run(5, 4, 1, 0), HeapLaw.FAULT);
        due("nothing has changed", h.value(1), 1);
        due("act", h.run(8, 1, 1, 0), HeapLaw.BAD);
        due("act", h.run(-1, 1, 1, 0), HeapLaw.BAD);
        for (int act = 0; act < 8; act++) {
            due("x " + act, h.run(act, 0, 1, 0), HeapLaw.BAD);
            due("x " + act, h.run(act, 5, 1, 0), HeapLaw.BAD);
            if (act == 0 || act >= 4) {
                due("y " + act, h.run(act, 1, 0, 0), HeapLaw.BAD);
                due("y " + act, h.run(act, 1, 5, 0), HeapLaw.BAD);
            }
        }
        due("a", h.run(2, 1, 1, -1), HeapLaw.BAD);
        due("a", h.run(2, 1, 1, 10), HeapLaw.BAD);
        due("held", h.held(), 4);
        for (int i = 0; i < 5; i++) {
            due("new", h.run(2, 1, -7, 0), 1);
        }
        due("none is free", h.run(2, 1, 1, 0), HeapLaw.MANY);
        due("BAD goes first", h.run(2, 1, 1, 10), HeapLaw.BAD);
        due("value", h.value(1), 9);
    }

    private static void is() {
        promise = "16 is";
        due("no formula", new HeapLaw().is(0), HeapLaw.BAD);
        dueIs("", 1);
        dueIs("1!1", 0);
        dueIs("1=2 2=3 1!3", 0);
        dueIs("1=2 3=4 1!3", 1);
        dueIs("0>1", 0);
        dueIs("1=0 1>2", 0);
        dueIs("0~1", 1);
        dueIs("0~1 1!0", 0);
        dueIs("1>2 1>3", 0);
        dueIs("1>2 3>2 1=3", 0);
        dueIs("1>2 1~3", 1);
        dueIs("1>2 1~3 1!3", 0);
        dueIs("1~2 1~3", 1);
        dueIs("1~2 1~3 1!2", 1);
        dueIs("1~2 1~3 1!2 1!3", 0);
        dueIs("1~2 1~3 1~4 1!2 1=3 4!3", 0);
        dueIs("1~2 2~1", 1);
        dueIs("1>1 1~1", 1);
        dueIs("1~2 2~3 3~1 1!2 2!3 1!3", 1);
        dueIs("5~6 6~7 7~5 5!6", 1);
        dueIs("1>5 2>6 3>7 4>0 5>0 6>0 7>0", 1);
        dueIs("1>5 2>6 3>7 4>0 5>0 6>0 7>0 7=6", 0);
    }

    private static void says() {
        promise = "17 says";
        HeapLaw h = new HeapLaw();
        int f = make(h, "1>5");
        int g = make(h, "1~0");
        due("BAD", h.says(f, 2), HeapLaw.BAD);
        due("BAD", h.says(2, g), HeapLaw.BAD);
        due("MANY", h.says(g, f), HeapLaw.MANY);
        due("BAD goes first", h.says(9, f), HeapLaw.BAD);
        due("a SPARE name in the PURE parts", h.says(g, make(h, "7=7 1~0")), HeapLaw.MANY);
        dueSays("", "", 1);
        dueSays("1=2 2=3", "3=1", 1);
        dueSays("1=2", "1=3", 0);
        dueSays("1>2", "1!0 1>2", 1);
        dueSays("1>2", "1!0", 0);
        dueSays("1>2", "", 0);
        dueSays("1>2 3>4", "1!3 3>4 1>2", 1);
        dueSays("1>2", "1~2", 0);
        dueSays("1>2 1!2", "1~2", 1);
        dueSays("1>0", "1~0", 1);
        dueSays("1~2", "1>2", 0);
        dueSays("1~2 1!2", "1>2", 0);
        dueSays("1~0 1=0", "", 1);
        dueSays("1~1", "2~2", 1);
        dueSays("1>5 5~0", "1~0", 1);
        dueSays("1>5 5>6 6~7 7>0", "1~0", 1);
        dueSays("1=5 5~0", "1~0", 1);
        dueSays("1!1", "2!2", 1);
        dueSays("1>2 1~3", "1=3 1>2", 1);
        dueSays("1~2 1~3 1!2", "1=3 1~2", 1);
        dueSays("1~0 2~0", "1!2 1~0 2~0", 0);
        dueSays("1~0 2~0 1!0", "1!2 1~0 2~0", 1);
        // A name that is in g alone may have any value.
        dueSays("1~0", "1~0 2!3", 0);
        dueSays("1~0", "1~2 2~0", 0);
    }

    private static void saysInside() {
        promise = "17 says, ends inside";
        // Where the end may be a cell inside of the first ROW, the joined ROW stops too early.
        dueSays("1~2 2~3", "1~3", 0);
        dueSays("1~2 2~3 1!3", "1~3", 0);
        dueSays("1~2 2~3 1!3 2!3", "1~3", 0);
        dueSays("1~2 2~3 3>0", "1~3 3>0", 1);
        dueSays("1~2 2~3 3~0", "1~3 3~0", 1);
        dueSays("1~2 2~3 3~4", "1~3 3~4", 0);
        dueSays("1~2 2~3 3~4 3!4", "1~3 3~4", 1);
        dueSays("1~2 2~3 3~0", "1~0", 1);
        dueSays("1>2 2~3 1!3", "1~3", 1);
        dueSays("1~2 2>3 1!3", "1~3", 0);
        dueSays("1~2 2>3 1!3 3=0", "1~3", 1);
        dueSays("1>2 2>3 1!3 2!3", "1~3", 1);
        dueSays("1~2 2>3 3>4", "1~3 3>4", 1);
        dueSays("1~2 2~3 4>3 1!3", "1~3 4>3", 0);
        dueSays("1~2 2~0 3>4", "1~0 3>4", 1);
        dueSays("1~2 3~4", "3~4 1~2", 1);
    }

    private static void stepPlain() {
        promise = "18 step, no cell needed";
        dueStep("1>2", 0, 3, 1, "3=1 1>2");
        dueStep("1>2", 0, 1, 2, "1=2 5>2");
        dueStep("1=2 1!0 1>2 2~1", 0, 1, 3, "5=2 5!0 1=3 5>2 2~5");
        dueStep("1>2 2>5", 0, 1, 1, "1>2 2>5");
        dueStep("1!1", 0, 1, 1);
        dueStep("", 0, 1, 2, "1=2");
        dueStep("1>5", 1, 1, 1, "1=0 6>5");
        dueStep("6>7", 1, 2, 2, "2=0 6>7");
        dueStep("2>7", 1, 2, 2, "2=0 5>7");
        dueStep("", 2, 1, 1, "1>5");
        dueStep("1=2 2~1", 2, 1, 1, "5=2 2~5 1>6");
        dueStep("2~6", 2, 1, 1, "2~6 1>5");
        dueStep("1~5", 2, 1, 1, "6~5 1>7");
        dueStep("1~2", 6, 1, 2, "1=2 1~2");
        dueStep("1=2 1~2", 6, 1, 2, "1=2 1~2");
        dueStep("1=2 1~2", 6, 2, 1, "1=2 2=1 1~2");
        dueStep("1!2", 6, 1, 2);
        dueStep("1~2", 7, 1, 2, "1!2 1~2");
        dueStep("1=2", 7, 1, 2);
        dueStep("", 7, 3, 3);
        dueStep("", 6, 3, 3, "3=3");
        dueStep("1!1", 2, 1, 1);
    }

    private static void stepOpened() {
        promise = "18 step, a cell needed";
        dueStep("1>2 2>3", 3, 2, 2, "1>2");
        dueStep("1=5 5>2", 3, 1, 1, "1=5");
        dueStep("1>2", 5, 1, 3, "1>3");
        dueStep("4=2 3=4 2>0", 5, 3, 1, "4=2 3=4 2>1");
        dueStep("1>2", 4, 3, 1, "3=2 1>2");
        dueStep("1>2", 4, 2, 1, "2=5 1>5");
        dueStep("1>2", 4, 1, 1, "1=2 5>2");
        dueStep("1>1", 4, 1, 1, "1=5 5>5");
        dueStep("2>1", 4, 1, 2, "1=5 2>5");
        dueStep("1!3 2~0 1~3", 3, 1, 1, "1!3 2~0 5~3");
        dueStep("1!0 1~0 2>0", 5, 1, 2, "1!0 1>2 5~0 2>0");
        dueStep("1=2 1!0 2~0", 3, 1, 1, "1=2 1!0 2!0 5~0");
        dueNoStep("1~0", 3, 1, 1, HeapLaw.FAULT);
        dueNoStep("1>2", 3, 2, 2, HeapLaw.FAULT);
        dueNoStep("1>2", 4, 1, 3, HeapLaw.FAULT);
        dueNoStep("0>1", 3, 1, 1, 0);
        // A CELL goes ahead of a ROW, even one that came earlier (which must then be empty).
        dueStep("1~2 1>3", 3, 1, 1, "1~2");
        // The second ROW is opened when the first one is empty.
        dueStep("1~2 2~3 3>4", 3, 1, 1, "1=2 2=3", "1=2 2!3 5~3 3>4", "1!2 5~2 2~3 3>4");
        dueStep("1~1 1>2", 4, 3, 1, "3=2 1~1 1>2");
        dueStep("1!2 1~1 1~2", 3, 1, 1, "1!2 1=1 5~2");
    }

    private static void stepOrder() {
        promise = "18 step, what comes up first";
        // Without the ROW there is a FAULT, though opening it would want a SPARE name.
        dueNoStep("5=5 6=6 7=7 1~0", 3, 1, 1, HeapLaw.FAULT);
        dueNoStep("5=5 6=6 7=7 1!0 1~0", 3, 1, 1, HeapLaw.SPENT);
        dueNoStep("5=5 6=6 7=7 1~2 2>0", 3, 1, 1, HeapLaw.SPENT);
        // The empty one is SPENT in its making ahead of any FAULT.
        String sixteen = "2=2 2=2 2=2 2=2 2=2 2=2 2=2 2=2 2=2 2=2 2=2 2=2 2=2 2=2 2=2 2=2";
        dueNoStep(sixteen + " 1~0", 3, 1, 1, HeapLaw.SPENT);
        dueNoStep(sixteen.substring(4) + " 1~0", 3, 1, 1, HeapLaw.FAULT);
        dueNoStep(sixteen.substring(4) + " 1=0 1~0", 3, 1, 1, HeapLaw.FAULT);
        // The empty one is SPENT on its way: the other one, which would do, is not made.
        dueNoStep(sixteen.substring(4) + " 1~2 2~3 3>4", 3, 1, 1, HeapLaw.SPENT);
        // What no memory fits gives nothing, not even SPENT or FAULT.
        dueNoStep("5=5 6=6 7=7 1!1 1~0", 3, 1, 1, 0);
        dueNoStep("5=5 6=6 7=7 1!1", 3, 1, 1, 0);
    }

    private static void stepSpent() {
        promise = "18 step, SPENT";
        dueNoStep("1=5 6=7", 0, 1, 2, HeapLaw.SPENT);
        dueStep("2=5 6=7", 0, 1, 2, "2=5 6=7 1=2");
        dueNoStep("1=5 6=7", 1, 1, 1, HeapLaw.SPENT);
        dueNoStep("2=5 6=7", 2, 1, 1, HeapLaw.SPENT);
        dueNoStep("1=5 6=6", 2, 1, 1, HeapLaw.SPENT);
        dueStep("2=5 6=6", 2, 1, 1, "2=5 6=6 1>7");
        dueNoStep("6=7 1>5", 4, 1, 1, HeapLaw.SPENT);
        String sixteen = "2=2 2=2 2=2 2=2 2=2 2=2 2=2 2=2 2=2 2=2 2=2 2=2 2=2 2=2 2=2 2=2";
        dueNoStep(sixteen, 0, 1, 3, HeapLaw.SPENT);
        dueNoStep(sixteen, 1, 1, 1, HeapLaw.SPENT);
        dueNoStep(sixteen, 6, 1, 3, HeapLaw.SPENT);
        dueNoStep(sixteen, 7, 1, 3, HeapLaw.SPENT);
        dueNoStep(sixteen, 7, 2, 2, HeapLaw.SPENT);
        dueStep(sixteen, 6, 2, 2, sixteen);
        dueStep(sixteen, 0, 2, 2, sixteen);
        dueNoStep(sixteen + " 1>3", 4, 4, 1, HeapLaw.SPENT);
        String ten = "3~3 3~3 3~3 3~3 3~3 3~3 3~3 3~3 3~3 ";
        dueNoStep("1!0 " + ten + "1~0", 3, 1, 1, HeapLaw.SPENT);
        dueStep("1!0 " + ten.substring(4) + "1~0", 3, 1, 1, "1!0 " + ten.substring(4) + "5~0");
        dueNoStep(ten + "1~0", 2, 2, 2, HeapLaw.SPENT);
        dueStep(ten.trim(), 2, 2, 2, ten + "2>5");
    }

    private static void stepFull() {
        promise = "18 step, FULL";
        HeapLaw h = new HeapLaw();
        int f = make(h, "1~2 2>0");
        int fault = make(h, "1~0");
        int spent = make(h, "5=5 6=6 7=7 1!0 1~0");
        while (h.count(0) < 58) {
            h.formula();
        }
        due("two more", h.step(f, 3, 1, 1), 2);
        due("count", h.count(0), 60);
        h.drop();
        due("one too many", h.step(f, 3, 1, 1), HeapLaw.FULL);
        due("count", h.count(0), 59);
        due("one more", h.step(f, 6, 1, 2), 1);
        due("one too many", h.step(f, 6, 1, 2), HeapLaw.FULL);
        due("none more", h.step(f, 7, 1, 1), 0);
        due("FAULT ahead of FULL", h.step(fault, 3, 1, 1), HeapLaw.FAULT);
        due("SPENT ahead of FULL", h.step(spent, 3, 1, 1), HeapLaw.SPENT);
        due("count", h.count(0), 60);
    }

    private static void stepWrong() {
        promise = "18 step, wrong";
        HeapLaw h = new HeapLaw();
        due("no formula", h.step(0, 0, 1, 2), HeapLaw.BAD);
        h.formula();
        due("act", h.step(0, 8, 1, 2), HeapLaw.BAD);
        due("act", h.step(0, -1, 1, 2), HeapLaw.BAD);
        for (int act = 0; act < 8; act++) {
            due("x", h.step(0, act, 0, 1), HeapLaw.BAD);
            due("x", h.step(0, act, 5, 1), HeapLaw.BAD);
            due("x", h.step(0, act, -7, 1), HeapLaw.BAD);
            if (act == 0 || act >= 4) {
                due("y", h.step(0, act, 1, 0), HeapLaw.BAD);
                due("y", h.step(0, act, 1, 5), HeapLaw.BAD);
                due("y", h.step(0, act, 1, -1), HeapLaw.BAD);
            }
        }
        due("count", h.count(0), 1);
    }

    /** In the acts 1, 2, 3 only x is a name: y may be any number, and changes nothing. */
    private static void stepWithoutY() {
        promise = "18 step, y that does not count";
        int[] anyY = {0, 1, 2, 4, 5, 7, 8, -1, -7, 64, Integer.MAX_VALUE, Integer.MIN_VALUE};
        for (int y : anyY) {
            dueStep("", 1, 1, y, "1=0");
            dueStep("", 2, 1, y, "1>5");
            dueNoStep("", 3, 1, y, HeapLaw.FAULT);
            dueStep("1!2 1>2 2~0", 1, 2, y, "1!5 2=0 1>5 5~0");
            dueStep("1!2 1>2 2~0", 2, 1, y, "5!2 5>2 2~0 1>6");
            dueStep("1!2 1>2 2~0", 3, 1, y, "1!2 2~0");
            dueStep("1~2 2>0", 3, 1, y, "1=2", "1!2 5~2 2>0");
            dueNoStep("5!6 6!7 1!0", 1, 1, y, HeapLaw.SPENT);
            dueNoStep("1>2", 1, 0, y, HeapLaw.BAD);
            dueNoStep("1>2", 3, 5, y, HeapLaw.BAD);
        }
    }

    private static void dueMemory(HeapLaw h, int... want) {
        for (int i = 0; i < 3; i++) {
            due("holds " + (i + 1), h.holds(i + 1), want[i]);
        }
        for (int i = 3; i < want.length; i++) {
            due("value " + (i - 2), h.value(i - 2), want[i]);
        }
    }

    private static void differ() {
        promise = "19 differ";
        HeapLaw h = new HeapLaw();
        h.cell(9, 1);
        h.cell(1, 1);
        h.set(4, 9);
        int any = make(h, "");
        int never = make(h, "1!1");
        due("differ", h.differ(any, any), 0);
        due("as it was", h.holds(9), 1);
        due("as it was", h.value(4), 9);
        due("differ", h.differ(any, never), 1);
        dueMemory(h, -1, -1, -1, 0, 0, 0, 0);
        due("the other cells go", h.held(), 0);
        due("differ", h.differ(make(h, "4!3 3!0"), any), 0);
        due("differ", h.differ(make(h, "4!3 3!0"), make(h, "4=0")), 1);
        dueMemory(h, -1, -1, -1, 0, 0, 1, 2);
        due("a name in the other one alone", h.differ(any, make(h, "2=0")), 1);
        dueMemory(h, -1, -1, -1, 0, 1, 0, 0);
        due("differ", h.differ(make(h, "1~0"), make(h, "1=0 1~0")), 1);
        dueMemory(h, -1, -1, 0, 3, 0, 0, 0);
        due("differ", h.differ(make(h, "1~2 1!2"), make(h, "1>2")), 1);
        dueMemory(h, -1, 0, 2, 3, 0, 0, 0);
        due("differ", h.differ(make(h, "1>2 2>3 3>1"), never), 1);
        dueMemory(h, 2, 3, 1, 1, 2, 3, 0);
        due("no small one", h.differ(make(h, "1>2 2>3 3>4 4>0"), never), 0);
        dueMemory(h, 2, 3, 1, 1, 2, 3, 0);
        due("count", h.count(1), 9);
        due("BAD", h.differ(0, 60), HeapLaw.BAD);
        due("BAD", h.differ(-1, 0), HeapLaw.BAD);
        due("count", h.count(1), 9);
    }

    private static void differMany() {
        promise = "19 differ, MANY";
        HeapLaw h = new HeapLaw();
        int f = make(h, "1~0");
        int spare = make(h, "1~0 5=5");
        due("MANY", h.differ(f, spare), HeapLaw.MANY);
        due("MANY", h.differ(spare, f), HeapLaw.MANY);
        due("BAD goes first", h.differ(spare, 2), HeapLaw.BAD);
        for (int i = 0; i < 40; i++) {
            due("count", h.count(1), i);
            due("differ", h.differ(f, f), 0);
        }
        due("41", h.differ(f, f), HeapLaw.MANY);
        due("BAD goes first", h.differ(f, 2), HeapLaw.BAD);
        due("count", h.count(1), 40);
    }

    private static void count() {
        promise = "20 count";
        HeapLaw h = new HeapLaw();
        make(h, "");
        make(h, "");
        h.differ(0, 1);
        due("count", h.count(0), 2);
        due("count", h.count(1), 1);
        due("what", h.count(2), HeapLaw.BAD);
        due("what", h.count(-1), HeapLaw.BAD);
    }

    /** Whatever is asked, no call throws. */
    private static void wildArguments() {
        promise = "wild arguments";
        int[] wild = {Integer.MIN_VALUE, -6, -1, 0, 1, 5, 7, 8, 16, 59, 60, 64, Integer.MAX_VALUE};
        HeapLaw h = new HeapLaw();
        make(h, "1~0");
        for (int a : wild) {
            for (int b : wild) {
                h.beside(a, b);
                h.drop();
                h.formula();
                h.size(a, b);
                h.set(a, b);
                h.cell(a, b);
                h.says(a, b);
                h.differ(a, b);
                for (int c : wild) {
                    for (int d : wild) {
                        h.pure(a, b, c, d);
                        h.part(a, b, c, d);
                        h.told(a, b, c, d);
                        h.run(a, b, c, d);
                        h.step(a, b, c, d);
                    }
                }
            }
            h.value(a);
            h.holds(a);
            h.fits(a);
            h.is(a);
            h.count(a);
        }
        due("held()", Math.min(h.held(), 0), 0);
    }
}
