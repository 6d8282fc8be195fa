/** Promises 1 to 8, and the bounds of formulas in part 1 of the terms: one test for each sentence with a boundary. */
public final class BoundaryFormulasTest extends Boundary {
    public static void main(String[] args) throws Exception {
        judge(BoundaryFormulasTest.class, args);
    }

    private static final String SIXTEEN =
        "0=1 2!3 4=5 6!7 7=0 1!2 3=4 5!6 0!1 2=3 4!5 6=7 7!0 1=2 3!4 5=6";
    private static final String TEN = "0>1 2~3 4>5 6~7 7>0 1~2 3>4 5~6 0~1 2>3";

    // ---- terms, part 1

    @Sentence("A TERM is 0 (NIL) or a name 1 .. 7.")
    static void terms() {
        for (int how = 0; how < 2; how++) {
            int by = how;
            for (int t = 0; t <= 7; t++) {
                int term = t;
                answers(Given.formulas(""), 1, h -> h.pure(0, by, term, 0), h -> h.pure(0, by, 0, term),
                    h -> h.part(0, by, term, 7), h -> h.part(0, by, 7, term), h -> h.part(0, by, term, term));
                due("x of a PURE part", Given.formulas("").led(h -> h.pure(0, by, term, 0)).told(0, 0, 0, 1), t);
                due("y of a PURE part", Given.formulas("").led(h -> h.pure(0, by, 0, term)).told(0, 0, 0, 2), t);
                due("x of a PART", Given.formulas("").led(h -> h.part(0, by, term, 0)).told(0, 1, 0, 1), t);
                due("y of a PART", Given.formulas("").led(h -> h.part(0, by, 0, term)).told(0, 1, 0, 2), t);
            }
            for (int t : new int[] {-1, 8, 9, 15, 16, -8, Integer.MIN_VALUE, Integer.MAX_VALUE}) {
                int none = t;
                changesNothing(Given.formulas("1=2 3>4"), HeapLaw.BAD,
                    h -> h.pure(0, by, none, 0), h -> h.pure(0, by, 0, none), h -> h.pure(0, by, none, none),
                    h -> h.part(0, by, none, 0), h -> h.part(0, by, 0, none), h -> h.part(0, by, none, none));
            }
        }
    }

    @Sentence("FORMULAS 0 .. 59 have PURE parts, at most 16")
    static void lastFormulaHasSixteenPureParts() {
        Given given = new Given().upTo(59).formula(SIXTEEN);
        due("formula 59", Given.shown(given.led(), 59), SIXTEEN);
        changesNothing(given, HeapLaw.FULL, h -> h.pure(59, 0, 1, 1), h -> h.pure(59, 1, 7, 0));
        changesNothing(given, HeapLaw.BAD, h -> h.pure(60, 0, 1, 1), h -> h.part(60, 0, 1, 1));
        due("PARTS are not hindered", given.led().part(59, 0, 1, 1), 1);
    }

    @Sentence("and PARTS, at most 10")
    static void lastFormulaHasTenParts() {
        Given given = new Given().upTo(59).formula(TEN);
        due("formula 59", Given.shown(given.led(), 59), TEN);
        changesNothing(given, HeapLaw.FULL, h -> h.part(59, 0, 1, 1), h -> h.part(59, 1, 7, 0));
        due("PURE parts are not hindered", given.led().pure(59, 0, 1, 1), 1);
    }

    @Sentence("in the order in which they came")
    static void order() {
        Given both = Given.formulas("", SIXTEEN + " " + TEN, "");
        due("as they came", Given.shown(both.led(), 1), SIXTEEN + " " + TEN);
        due("those around it", Given.shown(both.led(), 0) + Given.shown(both.led(), 2), "");
        Given mixed = Given.formulas("").then(h -> h.part(0, 1, 4, 3)).then(h -> h.pure(0, 1, 2, 1))
            .then(h -> h.part(0, 0, 3, 4)).then(h -> h.pure(0, 0, 1, 2));
        due("each kind in its own order", Given.shown(mixed.led(), 0), "2!1 1=2 4~3 3>4");
    }

    // ---- promise 1

    @Sentence("No formulas; the MEMORY has no cells, all values are NIL.")
    static void p01newObject() {
        Given given = new Given();
        due("a new object", given.look(), "cells -1 -1 -1 -1 -1 -1 -1 -1 -1 held 0 values 0 0 0 0 differed 0");
        due("count(0)", given.led().count(0), 0);
        changesNothing(given, HeapLaw.BAD, h -> h.size(0, 0), h -> h.size(0, 1), h -> h.told(0, 0, 0, 0),
            h -> h.pure(0, 0, 1, 1), h -> h.part(0, 0, 1, 1), h -> h.beside(0, 0), h -> h.drop(), h -> h.fits(0),
            h -> h.is(0), h -> h.says(0, 0), h -> h.step(0, 0, 1, 1), h -> h.differ(0, 0));
    }

    @Sentence("All memory is the class's own.")
    static void p01objectsShareNothing() {
        Given used = Given.cells(1, 2, 3).values(1, 2, 3, 4).formula("1=2 1>2").formula("5~0").then(h -> h.differ(0, 0));
        String before = new Given().look();
        HeapLaw first = used.led();
        due("a new object beside a used one", new Given().look(), before);
        HeapLaw second = new HeapLaw();
        second.formula();
        second.part(0, 1, 3, 4);
        second.set(1, 9);
        second.cell(1, 9);
        due("formula of the first one", Given.shown(first, 0), "1=2 1>2");
        due("memory of the first one", Given.memoryOf(first), Given.memoryOf(used.led()));
        due("formulas of the first one", first.count(0), 2);
        due("differ of the second one", second.count(1), 0);
    }

    // ---- promise 2

    @Sentence("A new formula without parts: its number.")
    static void p02number() {
        HeapLaw h = new HeapLaw();
        for (int i = 0; i < 60; i++) {
            due("formula()", h.formula(), i);
            due("PURE parts", h.size(i, 0), 0);
            due("PARTS", h.size(i, 1), 0);
            due("the next one is not there", h.size(i + 1, 0), HeapLaw.BAD);
            due("count(0)", h.count(0), i + 1);
        }
    }

    @Sentence("A new formula without parts: its number.")
    static void p02withoutParts() {
        makes(Given.formulas("1=2 1>2").then(h -> h.drop()), 0, h -> h.formula(), 0, "");
        makes(Given.formulas("", SIXTEEN + " " + TEN).then(h -> h.drop()), 1, h -> h.formula(), 1, "");
        makes(Given.formulas("1!0 1~0").then(h -> h.step(0, 4, 2, 1)).then(h -> h.drop()), 1, h -> h.formula(), 1, "");
        // A step that was refused had made something on its way.
        makes(Given.formulas("1~2 2~3").then(h -> h.step(0, 3, 1, 1)), 1, h -> h.formula(), 1, "");
        makes(Given.formulas("1=2 1>2", SIXTEEN).then(h -> h.beside(0, 1)), 2, h -> h.formula(), 2, "");
    }

    @Sentence("FULL: there are 60.")
    static void p02full() {
        answers(new Given().upTo(59), 59, h -> h.formula());
        Given full = new Given().upTo(59).formula("1=2 1>2");
        changesNothing(full, HeapLaw.FULL, h -> h.formula());
        due("once more", full.led(h -> h.formula()).formula(), HeapLaw.FULL);
        due("one goes", full.led(h -> h.formula(), h -> h.drop()).formula(), 59);
    }

    // ---- promise 3

    @Sentence("A PURE part more: x, y EQUAL (how 0), OTHER (1): how many it has.")
    static void p03howMany() {
        HeapLaw h = Given.formulas("", "1=1 1>1", "").led();
        for (int i = 1; i <= 16; i++) {
            due("pure", h.pure(0, i & 1, 1, 2), i);
        }
        due("the other ones", h.size(1, 0) * 10 + h.size(2, 0), 10);
        due("PARTS", h.size(0, 1), 0);
        due("how", h.told(0, 0, 0, 0) * 10 + h.told(0, 0, 15, 0), 10);
        // Not put once more is only what a step would put.
        answers(Given.formulas("1=2"), 2, g -> g.pure(0, 0, 1, 2));
    }

    @Sentence("BAD (another how, too). FULL.")
    static void p03bad() {
        Given given = Given.formulas("1=2", "3>4");
        changesNothing(given, HeapLaw.BAD, h -> h.pure(0, -1, 1, 2), h -> h.pure(0, 2, 1, 2), h -> h.pure(0, 3, 1, 2),
            h -> h.pure(-1, 0, 1, 2), h -> h.pure(2, 0, 1, 2), h -> h.pure(59, 0, 1, 2));
        for (int w : WILD) {
            changesNothing(given, HeapLaw.BAD, h -> h.pure(w, 0, 1, 2), h -> h.pure(0, w, 1, 2),
                h -> h.pure(0, 0, w, 2), h -> h.pure(0, 0, 1, w));
        }
        answers(given, 1, h -> h.pure(1, 0, 1, 2), h -> h.pure(1, 1, 1, 2));
    }

    @Sentence("BAD (another how, too). FULL.")
    static void p03full() {
        answers(Given.formulas(repeat("1=2", 15)), 16, h -> h.pure(0, 0, 1, 2), h -> h.pure(0, 1, 7, 0));
        Given full = Given.formulas(SIXTEEN, "");
        changesNothing(full, HeapLaw.FULL, h -> h.pure(0, 0, 1, 2), h -> h.pure(0, 1, 0, 7), h -> h.pure(0, 0, 0, 1));
        changesNothing(full, HeapLaw.BAD, h -> h.pure(0, 2, 1, 2), h -> h.pure(0, -1, 1, 2), h -> h.pure(0, 0, 8, 2),
            h -> h.pure(0, 0, -1, 2), h -> h.pure(0, 0, 1, 8), h -> h.pure(0, 0, 1, -1), h -> h.pure(2, 0, 1, 1));
        answers(full, 1, h -> h.pure(1, 0, 1, 2));
    }

    // ---- promise 4

    @Sentence("A PART more: a CELL (how 0), a ROW (1) from x to y: how many it has.")
    static void p04howMany() {
        HeapLaw h = Given.formulas("", "1=1 1>1", "").led();
        for (int i = 1; i <= 10; i++) {
            due("part", h.part(0, i & 1, 1, 2), i);
        }
        due("the other ones", h.size(1, 1) * 10 + h.size(2, 1), 10);
        due("PURE parts", h.size(0, 0), 0);
        due("how", h.told(0, 1, 0, 0) * 10 + h.told(0, 1, 9, 0), 10);
    }

    @Sentence("how many it has. BAD. FULL.")
    static void p04bad() {
        Given given = Given.formulas("1=2", "3>4");
        changesNothing(given, HeapLaw.BAD, h -> h.part(0, -1, 1, 2), h -> h.part(0, 2, 1, 2), h -> h.part(0, 3, 1, 2),
            h -> h.part(-1, 0, 1, 2), h -> h.part(2, 0, 1, 2), h -> h.part(59, 0, 1, 2));
        for (int w : WILD) {
            changesNothing(given, HeapLaw.BAD, h -> h.part(w, 0, 1, 2), h -> h.part(0, w, 1, 2),
                h -> h.part(0, 0, w, 2), h -> h.part(0, 0, 1, w));
        }
        answers(given, 2, h -> h.part(1, 0, 1, 2), h -> h.part(1, 1, 1, 2));
    }

    @Sentence("how many it has. BAD. FULL.")
    static void p04full() {
        answers(Given.formulas(repeat("1>2", 9)), 10, h -> h.part(0, 0, 1, 2), h -> h.part(0, 1, 7, 0));
        Given full = Given.formulas(TEN, "");
        changesNothing(full, HeapLaw.FULL, h -> h.part(0, 0, 1, 2), h -> h.part(0, 1, 0, 7), h -> h.part(0, 0, 0, 1));
        changesNothing(full, HeapLaw.BAD, h -> h.part(0, 2, 1, 2), h -> h.part(0, -1, 1, 2), h -> h.part(0, 0, 8, 2),
            h -> h.part(0, 0, -1, 2), h -> h.part(0, 0, 1, 8), h -> h.part(0, 0, 1, -1), h -> h.part(2, 0, 1, 1));
        answers(full, 1, h -> h.part(1, 0, 1, 2));
    }

    // ---- promise 5

    @Sentence("A new formula with the PURE parts and PARTS of both, those of f first: its number.")
    static void p05both() {
        Given given = Given.formulas("1=2 1!0 1>2", "3=4 2~0 3>5", "", "1=2");
        makes(given, 4, h -> h.beside(0, 1), 4, "1=2 1!0 3=4 1>2 2~0 3>5");
        makes(given, 4, h -> h.beside(1, 0), 4, "3=4 1=2 1!0 2~0 3>5 1>2");
        makes(given, 4, h -> h.beside(2, 2), 4, "");
        makes(given, 4, h -> h.beside(2, 1), 4, "3=4 2~0 3>5");
        makes(given, 4, h -> h.beside(1, 2), 4, "3=4 2~0 3>5");
        makes(given, 4, h -> h.beside(0, 0), 4, "1=2 1!0 1=2 1!0 1>2 1>2");
        // What stands there already is put once more: it is no step.
        makes(given, 4, h -> h.beside(3, 0), 4, "1=2 1=2 1!0 1>2");
        String before = given.look();
        due("both stay as they are", given.look(h -> h.beside(0, 1)), before + " [1=2 1!0 3=4 1>2 2~0 3>5]");
        HeapLaw grown = given.led(h -> h.beside(0, 1), h -> h.pure(0, 0, 7, 7), h -> h.part(1, 1, 7, 7));
        due("it is a copy", Given.shown(grown, 4), "1=2 1!0 3=4 1>2 2~0 3>5");
        grown = given.led(h -> h.beside(0, 1), h -> h.pure(4, 0, 7, 7), h -> h.part(4, 1, 7, 7));
        due("and they are not it", Given.shown(grown, 0) + "|" + Given.shown(grown, 1), "1=2 1!0 1>2|3=4 2~0 3>5");
    }

    @Sentence("its number. BAD. FULL (formulas, or parts).")
    static void p05bad() {
        Given given = Given.formulas("1=2", "3>4");
        changesNothing(given, HeapLaw.BAD, h -> h.beside(-1, 0), h -> h.beside(0, -1), h -> h.beside(2, 0),
            h -> h.beside(0, 2), h -> h.beside(2, 2), h -> h.beside(-1, -1), h -> h.beside(59, 0));
        for (int w : WILD) {
            changesNothing(given, HeapLaw.BAD, h -> h.beside(w, 0), h -> h.beside(1, w));
        }
        answers(given, 2, h -> h.beside(1, 0), h -> h.beside(0, 1), h -> h.beside(1, 1));
    }

    @Sentence("its number. BAD. FULL (formulas, or parts).")
    static void p05fullFormulas() {
        makes(Given.formulas("1=2", "3>4").upTo(59), 59, h -> h.beside(0, 1), 59, "1=2 3>4");
        Given full = Given.formulas("1=2", "3>4").upTo(60);
        changesNothing(full, HeapLaw.FULL, h -> h.beside(0, 1), h -> h.beside(58, 59), h -> h.beside(59, 59));
        changesNothing(full, HeapLaw.BAD, h -> h.beside(60, 0), h -> h.beside(0, 60), h -> h.beside(-1, 0),
            h -> h.beside(0, -1));
    }

    @Sentence("its number. BAD. FULL (formulas, or parts).")
    static void p05fullPureParts() {
        Given given = Given.formulas(SIXTEEN, "", "1=2", repeat("3!4", 8), repeat("5=6", 9));
        makes(given, 5, h -> h.beside(0, 1), 5, SIXTEEN);
        makes(given, 5, h -> h.beside(1, 0), 5, SIXTEEN);
        makes(given, 5, h -> h.beside(3, 3), 5, repeat("3!4", 16));
        changesNothing(given, HeapLaw.FULL, h -> h.beside(0, 2), h -> h.beside(2, 0), h -> h.beside(3, 4),
            h -> h.beside(4, 3), h -> h.beside(0, 0), h -> h.beside(4, 4));
        changesNothing(given, HeapLaw.BAD, h -> h.beside(0, 5), h -> h.beside(5, 0));
    }

    @Sentence("its number. BAD. FULL (formulas, or parts).")
    static void p05fullParts() {
        Given given = Given.formulas(TEN, "", "1>2", repeat("3~4", 5), repeat("5>6", 6), "1=2");
        makes(given, 6, h -> h.beside(0, 1), 6, TEN);
        makes(given, 6, h -> h.beside(1, 0), 6, TEN);
        makes(given, 6, h -> h.beside(0, 5), 6, "1=2 " + TEN);
        makes(given, 6, h -> h.beside(3, 3), 6, repeat("3~4", 10));
        changesNothing(given, HeapLaw.FULL, h -> h.beside(0, 2), h -> h.beside(2, 0), h -> h.beside(3, 4),
            h -> h.beside(4, 3), h -> h.beside(0, 0), h -> h.beside(4, 4));
        changesNothing(given, HeapLaw.BAD, h -> h.beside(0, 6), h -> h.beside(6, 0));
    }

    // ---- promise 6

    @Sentence("How many of a formula: 0 PURE parts, 1 PARTS. BAD.")
    static void p06size() {
        Given given = Given.formulas("", SIXTEEN, TEN, "1=2 1=2 1>2", SIXTEEN + " " + TEN);
        int[][] want = {{0, 0}, {16, 0}, {0, 10}, {2, 1}, {16, 10}};
        for (int i = 0; i < want.length; i++) {
            int f = i;
            changesNothing(given, want[i][0], h -> h.size(f, 0));
            changesNothing(given, want[i][1], h -> h.size(f, 1));
            changesNothing(given, HeapLaw.BAD, h -> h.size(f, -1), h -> h.size(f, 2), h -> h.size(f, 3));
        }
        changesNothing(given, HeapLaw.BAD, h -> h.size(5, 0), h -> h.size(5, 1), h -> h.size(-1, 0), h -> h.size(-1, 1));
        Given full = new Given().upTo(60);
        answers(full, 0, h -> h.size(59, 0), h -> h.size(59, 1), h -> h.size(0, 0));
        answers(full, HeapLaw.BAD, h -> h.size(60, 0), h -> h.size(60, 1), h -> h.size(-1, 0));
        for (int w : WILD) {
            answers(full, HeapLaw.BAD, h -> h.size(w, 0), h -> h.size(0, w));
        }
    }

    // ---- promise 7

    @Sentence("Of PURE part i (which 0), PART i (1): 0 its how, 1 x, 2 y.")
    static void p07firstAndLast() {
        HeapLaw h = Given.formulas("1=2", SIXTEEN + " " + TEN).led();
        due("first PURE part", h.told(1, 0, 0, 0) * 100 + h.told(1, 0, 0, 1) * 10 + h.told(1, 0, 0, 2), 1);
        due("second PURE part", h.told(1, 0, 1, 0) * 100 + h.told(1, 0, 1, 1) * 10 + h.told(1, 0, 1, 2), 123);
        due("last PURE part", h.told(1, 0, 15, 0) * 100 + h.told(1, 0, 15, 1) * 10 + h.told(1, 0, 15, 2), 56);
        due("first PART", h.told(1, 1, 0, 0) * 100 + h.told(1, 1, 0, 1) * 10 + h.told(1, 1, 0, 2), 1);
        due("second PART", h.told(1, 1, 1, 0) * 100 + h.told(1, 1, 1, 1) * 10 + h.told(1, 1, 1, 2), 123);
        due("last PART", h.told(1, 1, 9, 0) * 100 + h.told(1, 1, 9, 1) * 10 + h.told(1, 1, 9, 2), 23);
    }

    @Sentence("BAD: no such formula, part, what.")
    static void p07bad() {
        Given given = Given.formulas("1=2 3=4 5=6 1>2", "1=2 1>2 3~4 5>6", "", SIXTEEN + " " + TEN);
        for (int w = 0; w < 3; w++) {
            int what = w;
            changesNothing(given, HeapLaw.BAD, h -> h.told(0, 0, 3, what), h -> h.told(0, 1, 1, what),
                h -> h.told(0, 1, 2, what), h -> h.told(1, 0, 1, what), h -> h.told(1, 1, 3, what),
                h -> h.told(2, 0, 0, what), h -> h.told(2, 1, 0, what), h -> h.told(3, 0, 16, what),
                h -> h.told(3, 1, 10, what), h -> h.told(3, 1, 15, what), h -> h.told(0, 0, -1, what),
                h -> h.told(0, 1, -1, what), h -> h.told(0, -1, 0, what), h -> h.told(0, 2, 0, what),
                h -> h.told(4, 0, 0, what), h -> h.told(4, 1, 0, what), h -> h.told(-1, 0, 0, what));
        }
        for (int f = 0; f < 2; f++) {
            int which = f;
            changesNothing(given, HeapLaw.BAD, h -> h.told(0, which, 0, -1), h -> h.told(0, which, 0, 3),
                h -> h.told(0, which, 0, 4));
        }
        for (int w : WILD) {
            answers(given, HeapLaw.BAD, h -> h.told(w, 0, 0, 0), h -> h.told(0, w, 0, 0), h -> h.told(0, 0, w, 0),
                h -> h.told(0, 1, w, 0), h -> h.told(0, 0, 0, w));
        }
        answers(given, 6, h -> h.told(0, 0, 2, 2), h -> h.told(1, 1, 2, 2));
    }

    @Sentence("BAD: no such formula, part, what.")
    static void p07dropped() {
        Given given = Given.formulas("1=2 1>2", SIXTEEN + " " + TEN).then(h -> h.drop());
        changesNothing(given, HeapLaw.BAD, h -> h.told(1, 0, 0, 0), h -> h.told(1, 1, 0, 0));
        Given again = given.copy().then(h -> h.formula());
        answers(again, HeapLaw.BAD, h -> h.told(1, 0, 0, 0), h -> h.told(1, 1, 0, 0));
    }

    // ---- promise 8

    @Sentence("The formula that was made last goes: how many are left.")
    static void p08last() {
        Given given = Given.formulas("1=2", "3>4", "5~6");
        due("the last one", given.led().drop(), 2);
        due("those left", given.look(h -> h.drop()), Given.formulas("1=2", "3>4").look());
        due("the one before", given.led(h -> h.drop()).drop(), 1);
        due("the one left", given.look(h -> h.drop(), h -> h.drop()), Given.formulas("1=2").look());
        due("the first one", given.led(h -> h.drop(), h -> h.drop()).drop(), 0);
        due("none left", given.look(h -> h.drop(), h -> h.drop(), h -> h.drop()), new Given().look());
        HeapLaw full = new Given().upTo(60).led();
        for (int left = 59; left >= 0; left--) {
            due("from 60 on", full.drop(), left);
            due("it is gone", full.size(left, 0), HeapLaw.BAD);
        }
        // A step may make several: just the last of them goes.
        Given stepped = Given.formulas("1~2 2>0").then(h -> h.step(0, 3, 1, 1));
        makes(stepped, 2, h -> h.drop(), 1, "1=2");
    }

    @Sentence("how many are left. BAD: there is none.")
    static void p08none() {
        changesNothing(new Given(), HeapLaw.BAD, h -> h.drop());
        changesNothing(Given.formulas("1=2", "").then(h -> h.drop()).then(h -> h.drop()), HeapLaw.BAD, h -> h.drop());
        answers(new Given().then(h -> h.drop()), 0, h -> h.formula());
        changesNothing(Given.cells(1, 2).values(3, 4).copy(), HeapLaw.BAD, h -> h.drop());
    }

    @Sentence("BAD (-1): no such formula, term, name, address, act")
    static void droppedIsNoFormula() {
        Given given = Given.formulas("1=2", "3>4").then(h -> h.drop());
        changesNothing(given, HeapLaw.BAD, h -> h.pure(1, 0, 1, 1), h -> h.part(1, 0, 1, 1), h -> h.beside(0, 1),
            h -> h.beside(1, 0), h -> h.size(1, 0), h -> h.told(1, 1, 0, 0), h -> h.fits(1), h -> h.is(1),
            h -> h.says(0, 1), h -> h.says(1, 0), h -> h.step(1, 0, 1, 2), h -> h.differ(0, 1), h -> h.differ(1, 0));
    }
}
