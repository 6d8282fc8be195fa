/**
 * Promises 16, 17, 19 and 20, parts 3 and 4 of the terms, and the bound of 512 calls: one
 * test for each sentence with a boundary.
 */
public final class BoundarySaysTest extends Boundary {
    public static void main(String[] args) throws Exception {
        judge(BoundarySaysTest.class, args);
    }

    private static final String NEVER = "1!1";
    private static final String ALL_OTHER = "1!2 1!3 1!4 2!3 2!4 3!4";
    private static final String NONE_NIL = "1!0 2!0 3!0 4!0";

    // ---- how long an object is used

    @Sentence("An object is used for at most 512 calls after it has been made")
    static void all512CallsAnswer() {
        HeapLaw h = new HeapLaw();
        int was = 0;
        for (int i = 1; i <= 512; i++) {
            due("set " + i, h.set(4, i % 10), was);
            was = i % 10;
        }
        HeapLaw full = new HeapLaw();
        for (int i = 1; i <= 512; i++) {
            due("formula " + i, full.formula(), i <= 60 ? i - 1 : HeapLaw.FULL);
        }
        HeapLaw back = new HeapLaw();
        for (int i = 1; i <= 512; i++) {
            due("formula and drop " + i, i % 2 == 1 ? back.formula() : back.drop(), 0);
        }
    }

    @Sentence("An object is used for at most 512 calls after it has been made")
    static void dearest512CallsEnd() {
        // All eight terms count, and nothing parts the two: all ways to share values are gone through.
        HeapLaw h = Given.formulas("5=5 6=6 7=7 1~2 2~3 3~4 4~0", "1~0 4~4").led();
        for (int i = 0; i < 490; i++) {
            due("says", h.says(0, 1), 1);
        }
        HeapLaw steps = Given.formulas("1~5 2~6 3~7 4~0 5~0 6~0 7~0").led(g -> g.cell(9, 9));
        for (int i = 0; i < 250; i++) {
            due("step", steps.step(0, 3, 1, 1), HeapLaw.FAULT);
            due("fits", steps.fits(0), 0);
        }
        HeapLaw differs = Given.formulas("1~2 2~3 3~4 4~0", "1~2 2~3 3~4 4~0").led();
        for (int i = 0; i < 500; i++) {
            due("differ", differs.differ(0, 1), i < 40 ? 0 : HeapLaw.MANY);
        }
    }

    // ---- terms, part 3

    @Sentence("A formula SAYS another one, which has no SPARE names")
    static void spareNamesOfTheFirstAreAny() {
        says("1>5", "1>0", 0);
        says("1>5 5=0", "1>0", 1);
        says("1>5 5~6 6~7 7~0", "1~0", 1);
        says("1=5 5=6 6=7 7=2", "1=2", 1);
        says("5!0", "", 1);
        says("5>6", "", 0);
        says("5!5", "", 1);
        says("1!5 1!6 1!7", "", 1);
    }

    @Sentence("In formulas addresses have no bound: see 3.")
    static void beyondSmallMemories() {
        // What parts them has four cells, four values that are not NIL, or both: no small memory does.
        says("1>2 2>3 3>4 4>0", NEVER, 0);
        partsNot("1>2 2>3 3>4 4>0", NEVER);
        says(all(NONE_NIL, ALL_OTHER), NEVER, 0);
        partsNot(all(NONE_NIL, ALL_OTHER), NEVER);
        says("1>2 2>3 3~4 4>0 3!4", "1>2 2>3 3>4 4>0", 0);
        partsNot("1>2 2>3 3~4 4>0 3!4", "1>2 2>3 3>4 4>0");
        is("1>2 2>3 3>4 4>5 5>6 6>7 7>0", 1);
        is("1>1 2>2 3>3 4>4 5>5 6>6 7>7", 1);
        is("1~2 2~3 3~4 4~5 5~6 6~7 7~1 1!2 2!3 3!4 4!5 5!6 6!7 7!1", 1);
        // Nor does the MEMORY count, with all its cells or none.
        answers(Given.cells(1, 1, 1, 1, 1, 1, 1, 1, 1).formula("1>2").formula("1~2"), 0, h -> h.says(0, 1));
        answers(Given.cells(1, 1, 1, 1, 1, 1, 1, 1, 1).formula("1>2"), 1, h -> h.is(0));
    }

    @Sentence("with addresses without bound (NIL one of them, never a cell's)")
    static void nilIsNoCell() {
        is("0>1", 0);
        is("0>0", 0);
        is("0~0", 1);
        is("0~1", 1);
        is("0~1 1!0", 0);
        is("1=0 1>2", 0);
        is("1=0 1~2", 1);
        is("1=0 1~2 2!0", 0);
        says("1>2", "1!0 1>2", 1);
        says("1>2", "2!0 1>2", 0);
        says("0~1", "1=0", 1);
        says("1~2", "1!0 1~2", 0);
        says("1~2 1!2", "1!0 1~2", 1);
        says("0>1", NEVER, 1);
        for (int t = 1; t <= 7; t++) {
            is(t + "=0", 1);
            is(t + "=0 " + t + ">0", 0);
            is(t + ">0", 1);
        }
    }

    @Sentence("each memory and values of all names that FIT the one FIT the other.")
    static void eachMemory() {
        says("", "", 1);
        says("", "1=1 0=0 2~2 0~0", 1);
        says("", "1~0", 0);
        says("", "0=1", 0);
        says("1~0", "", 0);
        says("1=0 1~0", "", 1);
        says(NEVER, "", 1);
        says(NEVER, NEVER, 1);
        says("", NEVER, 0);
        // ROWS of one cell, and of more.
        says("1>2 1!2", "1~2", 1);
        says("1>2", "1~2", 0);
        says("1>1", "1~1", 0);
        says("1~2 1!2", "1>2", 0);
        says("1~2", "1~2", 1);
        // One name alone that is in the other one may have any value.
        says("1~0", "1~0 2=2", 1);
        says("1~0", "1~0 2=0", 0);
        says("1~0", "1~0 2~0", 0);
        // Two ROWS end to end are one where the end cannot lie inside.
        says("1~2 2~0", "1~0", 1);
        says("1~2 2~3", "1~3", 0);
        says("1~2 2~3 3>0", "1~3 3>0", 1);
        says("1~2 2~3 3~4", "1~3 3~4", 0);
        says("1~2 2~3 3~4 3!4", "1~3 3~4", 1);
        says("1>2 2~3 1!3", "1~3", 1);
        says("1~2 2>3 1!3", "1~3", 0);
        // Where nothing but an end inside of the first ROW parts them.
        says("1~2 2~3 1!3 2!3", "1~3", 0);
        says("1~2 2>3 1!3 2!3", "1~3", 0);
        says("1~2 2~3 1!3 2!3 3=0", "1~3", 1);
        says("1~2 2~3 1!3 2!3 3>4", "1~3 3>4", 1);
        says("1>2 2>3 1!3 2!3", "1~3", 1);
        says("1>2 2~3 1!3 2!3", "1~3", 1);
        says("1>2 2~3 3~4 1!4 2!4 3!4", "1~4", 0);
        says("1>2 2>3 3~4 1!4 2!4 3!4", "1~4", 1);
    }

    @Sentence("It IS FIT if some memory and values FIT it.")
    static void isFit() {
        is("", 1);
        is("1!1", 0);
        is("0!0", 0);
        is("0=0", 1);
        is(repeat("1!2", 16), 1);
        is(all(repeat("1!2", 15), "1=2"), 0);
        is(all("2=1", repeat("1!2", 15)), 0);
        is(all(repeat("1~2", 9), "1!2"), 0);
        is(repeat("1~2", 10), 1);
        is(all("1!2", repeat("2~2", 9), "1~2"), 1);
        is(all("1!2", repeat("2~2", 8), "1~2 1~2"), 0);
        is("1>2 1~2", 1);
        is("1!2 1>2 1~2", 0);
        is("1>1 1~1", 1);
        is("1>2 2>3 3=1", 1);
        is("1>2 2>3 2=1", 0);
        is("1!5 1!6 1!7 5!6 5!7 6!7 1!2 2!5 2!6 2!7 1>2 2>5 5>6 6>7 7>1", 1);
    }

    @Sentence("It IS FIT if some memory and values FIT it.")
    static void fullFormulas() {
        // Each of 16 PURE parts and 10 PARTS counts, wherever it stands.
        String pures = repeat("0=0", 15), parts = repeat("0~0", 9);
        for (String end : new String[] {"0", "1", "7"}) {
            is(all(pures, "0=" + end, parts, "0~" + end), 1);
            is(all(pures, "0=" + end, parts, "0>" + end), 0);
            is(all(pures, "0=" + end, "0>" + end, parts), 0);
            is(all(pures, end + "!" + end, parts, "0~" + end), 0);
            is(all(end + "!" + end, pures, parts, "0~" + end), 0);
        }
        says(all(pures, "1=1", parts, "1>0"), all(pures, "1!0", parts, "1~0"), 1);
        says(all(pures, "1=1", parts, "1>4"), all(pures, "1!0", parts, "1~0"), 0);
        says(all(pures, "1=1", parts, "1>0"), all(pures, "1!0", parts, "1>4"), 0);
        says(all(pures, "1=1", parts, "1>0"), all(pures, "4!0", parts, "1>0"), 0);
        parts(all(pures, "4=4", parts, "4>0"), all(pures, "4=4", parts, "4~4"), -1, -1, 0, 0, 0, 0, 3);
        partsNot(all(pures, "4=4", parts, "4>0"), all(pures, "4!0", parts, "4~0"));
        fits(Given.cells(0).values(0, 0, 0, 1), all(pures, "4!0", parts, "4>0"), 1);
        fits(Given.cells(0).values(0, 0, 0, 1), all(pures, "4=0", parts, "4>0"), 0);
        fits(Given.cells(0).values(0, 0, 0, 1), all(pures, "4!0", parts, "4>4"), 0);
        fits(Given.cells(0).values(0, 0, 0, 1), all(pures, "7=4", parts, "7>0"), 1);
        fits(Given.cells(0).values(0, 0, 0, 1), all(pures, "7=0", parts, "7>0"), 0);
    }

    // ---- terms, part 4

    @Sentence("BAD (-1): no such formula, term, name, address, act; FULL (-2); MANY (-3): as the call says; SPENT (-4); FAULT (-5).")
    static void constants() {
        due("BAD", HeapLaw.BAD, -1);
        due("FULL", HeapLaw.FULL, -2);
        due("MANY", HeapLaw.MANY, -3);
        due("SPENT", HeapLaw.SPENT, -4);
        due("FAULT", HeapLaw.FAULT, -5);
    }

    @Sentence("Answers, of several the one named first")
    static void severalAnswers() {
        Given full = Given.cells(1, 1, 1, 1, 1, 1, 1, 1, 1)
            .formula(all(repeat("1=5", 16), repeat("2~6", 10))).formula("7=7").upTo(60).times(40, h -> h.differ(2, 3));
        // BAD ahead of FULL.
        changesNothing(full, -1, h -> h.pure(0, 2, 1, 1), h -> h.pure(0, 0, 8, 1), h -> h.pure(0, 0, 1, 8),
            h -> h.part(0, 2, 1, 1), h -> h.part(0, 0, 8, 1), h -> h.part(0, 0, 1, 8), h -> h.beside(0, 60),
            h -> h.beside(60, 0));
        changesNothing(full, -2, h -> h.pure(0, 0, 1, 1), h -> h.part(0, 0, 1, 1), h -> h.beside(0, 0),
            h -> h.formula(), h -> h.step(2, 1, 1, 1));
        // BAD ahead of MANY.
        changesNothing(full, -1, h -> h.run(2, 1, 1, 10), h -> h.run(2, 5, 1, 1), h -> h.says(60, 1), h -> h.says(60, 60),
            h -> h.differ(60, 1), h -> h.differ(1, 60), h -> h.differ(60, 2), h -> h.differ(2, 60));
        changesNothing(full, -3, h -> h.run(2, 1, 1, 9), h -> h.says(2, 1), h -> h.says(1, 1), h -> h.differ(1, 2),
            h -> h.differ(2, 1), h -> h.differ(2, 3));
        // BAD ahead of SPENT and FAULT.
        changesNothing(full, -1, h -> h.step(0, 8, 2, 1), h -> h.step(0, 3, 5, 1), h -> h.step(0, 4, 1, 5),
            h -> h.step(60, 3, 1, 1), h -> h.run(3, 0, 1, 0), h -> h.run(8, 1, 1, 0));
        changesNothing(full, -4, h -> h.step(0, 1, 1, 1), h -> h.step(0, 3, 2, 1));
        changesNothing(full, -5, h -> h.step(0, 3, 1, 1), h -> h.run(3, 1, 1, 0));
    }

    @Sentence("What is answered so changes nothing.")
    static void refusedCallsChangeNothing() {
        Given given = Given.cells(2, 3, -1, 4).values(1, 3, 0, 9).formula("1!2 1!0 1>2 2~0").formula("5=5 6=6 7=7 1~0")
            .formula(repeat("1=1", 16)).formula(repeat("1~1", 10)).then(h -> h.differ(0, 2));
        changesNothing(given, HeapLaw.BAD, h -> h.pure(4, 0, 1, 1), h -> h.part(4, 0, 1, 1), h -> h.beside(4, 0),
            h -> h.beside(0, 4), h -> h.size(4, 0), h -> h.told(4, 0, 0, 0), h -> h.set(5, 1), h -> h.set(1, 10),
            h -> h.cell(10, 1), h -> h.cell(1, 10), h -> h.value(5), h -> h.fits(4), h -> h.run(8, 1, 1, 1),
            h -> h.is(4), h -> h.says(4, 0), h -> h.says(0, 4), h -> h.step(4, 0, 1, 1), h -> h.step(0, 8, 1, 1),
            h -> h.differ(4, 0), h -> h.differ(0, 4), h -> h.count(2));
        changesNothing(given, HeapLaw.FULL, h -> h.pure(2, 1, 1, 2), h -> h.part(3, 0, 1, 2), h -> h.beside(2, 0),
            h -> h.beside(0, 3));
        changesNothing(given, HeapLaw.MANY, h -> h.says(0, 1), h -> h.differ(0, 1), h -> h.differ(1, 0));
        changesNothing(given, HeapLaw.SPENT, h -> h.step(1, 1, 1, 1), h -> h.step(2, 1, 2, 2), h -> h.step(3, 2, 2, 2));
        changesNothing(given, HeapLaw.FAULT, h -> h.step(1, 3, 1, 1), h -> h.step(0, 4, 1, 4), h -> h.run(3, 4, 1, 1),
            h -> h.run(4, 1, 3, 1), h -> h.run(5, 2, 1, 1));
    }

    // ---- promise 16

    @Sentence("1 if a formula IS FIT, else 0. BAD.")
    static void p16is() {
        Given given = Given.formulas("1!1", "1>2").upTo(59).formula("1=0 1>0");
        changesNothing(given, 0, h -> h.is(0), h -> h.is(59));
        changesNothing(given, 1, h -> h.is(1), h -> h.is(58));
        changesNothing(given, HeapLaw.BAD, h -> h.is(-1), h -> h.is(60));
        Given two = Given.formulas("", "");
        changesNothing(two, 1, h -> h.is(0), h -> h.is(1));
        changesNothing(two, HeapLaw.BAD, h -> h.is(2), h -> h.is(-1), h -> h.is(59));
        for (int w : WILD) {
            answers(two, HeapLaw.BAD, h -> h.is(w));
        }
        // What was asked ahead of it does not count.
        Given asked = Given.formulas("1~0", "1>0");
        answers(asked.copy().then(h -> h.says(0, 0)), 1, h -> h.is(0), h -> h.is(1));
        answers(asked.copy().then(h -> h.says(1, 0)), 1, h -> h.is(0), h -> h.is(1));
        answers(asked.copy().then(h -> h.says(0, 1)), 1, h -> h.is(0), h -> h.is(1), h -> h.says(1, 0));
    }

    // ---- promise 17

    @Sentence("1 if f SAYS g, else 0. BAD.")
    static void p17says() {
        Given given = Given.formulas("1~0").upTo(59).formula("1>0");
        changesNothing(given, 1, h -> h.says(59, 0), h -> h.says(0, 0), h -> h.says(59, 59), h -> h.says(1, 58));
        changesNothing(given, 0, h -> h.says(0, 59), h -> h.says(1, 0), h -> h.says(59, 1));
        changesNothing(given, HeapLaw.BAD, h -> h.says(60, 0), h -> h.says(0, 60), h -> h.says(-1, 0),
            h -> h.says(0, -1), h -> h.says(60, 60));
        Given two = Given.formulas("", "");
        changesNothing(two, 1, h -> h.says(0, 1), h -> h.says(1, 0));
        changesNothing(two, HeapLaw.BAD, h -> h.says(2, 0), h -> h.says(0, 2), h -> h.says(-1, 1), h -> h.says(1, -1));
        for (int w : WILD) {
            answers(two, HeapLaw.BAD, h -> h.says(w, 0), h -> h.says(0, w));
        }
    }

    @Sentence("MANY: g has a SPARE name.")
    static void p17many() {
        for (int s = 5; s <= 7; s++) {
            for (String how : new String[] {"=", "!", ">", "~"}) {
                Given given = Given.formulas("1~0", s + how + "1", "1" + how + s, NEVER);
                changesNothing(given, HeapLaw.MANY, h -> h.says(0, 1), h -> h.says(0, 2), h -> h.says(1, 1),
                    h -> h.says(3, 1), h -> h.says(3, 2));
                changesNothing(given, HeapLaw.BAD, h -> h.says(4, 1), h -> h.says(-1, 2), h -> h.says(1, 4));
                changesNothing(given, 0, h -> h.says(1, 3), h -> h.says(2, 3));
                changesNothing(given, 1, h -> h.says(3, 0));
            }
        }
        // It may be in the last of all parts; and NIL and the name 4 are none.
        says("", all(repeat("1=1", 15), "1=7"), HeapLaw.MANY);
        says("", all(repeat("1~1", 9), "7~1"), HeapLaw.MANY);
        says("", all(repeat("4=4", 16), repeat("4~4", 5), repeat("0~0", 5)), 1);
    }

    // ---- promise 19

    @Sentence("The first of all small memories that FITS f and not g becomes the MEMORY: 1; 0: none does.")
    static void p19becomesTheMemory() {
        parts("", NEVER, -1, -1, -1, 0, 0, 0, 0);
        partsNot("", "");
        partsNot(NEVER, "");
        partsNot("1~0", "1~0");
        partsNot("1>0", "1~0");
        parts("1~0", "1>0", -1, -1, -1, 0, 0, 0, 0);
        parts("1~0 1!0", "1>0", -1, 0, 2, 3, 0, 0, 0);
        // Parts of NIL alone.
        parts("0=0 0~0", "0!0", -1, -1, -1, 0, 0, 0, 0);
        parts("", "0>0", -1, -1, -1, 0, 0, 0, 0);
        partsNot("", "0=0 0~0");
        partsNot("0!0", NEVER);
        partsNot("0>0", NEVER);
        Given given = Given.cells(5).values(9).formula("1~0").formula("1>0").formula("1=0");
        due("formulas stay", given.led(h -> h.differ(0, 1)).count(0), 3);
        due("it fits the one", given.led(h -> h.differ(0, 2)).fits(0), 1);
        due("and not the other", given.led(h -> h.differ(0, 2)).fits(2), 0);
    }

    @Sentence("SMALL: with cells at the addresses 1 .. 3 alone, holding addresses 0 .. 3, values 0 .. 3.")
    static void p19small() {
        // Three cells at most.
        parts("1>2 2>3 3>0", NEVER, 0, 1, 2, 3, 2, 1, 0);
        partsNot("1>2 2>3 3>4 4>0", NEVER);
        parts("1~0", "1=2 1~0", -1, -1, -1, 0, 1, 0, 0);
        partsNot("1~2 2~3 3~4 4~0 1!2 2!3 3!4 4!0", NEVER);
        parts("1~2 2~3 3~0 1!2 2!3 3!0", NEVER, 0, 1, 2, 3, 2, 1, 0);
        // Values up to 3, NIL one of them.
        parts(ALL_OTHER, NEVER, -1, -1, -1, 0, 1, 2, 3);
        partsNot(all(ALL_OTHER, NONE_NIL), NEVER);
        parts("1!0 2!0 3!0 1!2 1!3 2!3", NEVER, -1, -1, -1, 1, 2, 3, 0);
        // Addresses held, up to 3.
        parts("1>1", NEVER, -1, -1, 3, 3, 0, 0, 0);
        parts("1>2 2>1 1!2", NEVER, -1, 3, 2, 2, 3, 0, 0);
        parts("1>2 2>3 3>1 1!2", NEVER, 2, 3, 1, 1, 2, 3, 0);
        parts("1>1 2>2 3>3", NEVER, 1, 2, 3, 1, 2, 3, 0);
        parts("1>4 2>4 3>4", NEVER, 0, 0, 0, 1, 2, 3, 0);
        parts("1>4 2>4 3>4 4!0", NEVER, 1, 1, 1, 1, 2, 3, 1);
        parts("1>4 2>4 4!0 4!1 4!2", NEVER, -1, 1, 1, 2, 3, 0, 1);
        partsNot("1>4 2>4 3>4 4!0 4!1 4!2 4!3", NEVER);
        parts("1>0 2>3 3>2 2!3", NEVER, 0, 3, 2, 1, 2, 3, 0);
        parts("1>1 2>3 3>2 2!3", NEVER, 1, 3, 2, 1, 2, 3, 0);
        // The other cells go, and with them what they held.
        Given given = Given.cells(9, 9, 9, 9, 9, 9, 9, 9, 9).formula("").formula(NEVER);
        due("held", given.led(h -> h.differ(0, 1)).held(), 0);
    }

    @Sentence("In order of what the cells at 1, 2, 3 hold (-1 first), then of the values of the names 1, 2, 3, 4; the first that differs, the lesser.")
    static void p19order() {
        // One cell is at 3, two are at 2 and 3; there is none at all if that will do.
        parts("1>2", NEVER, -1, -1, 0, 3, 0, 0, 0);
        parts("1>2 2!0", NEVER, -1, -1, 1, 3, 1, 0, 0);
        parts("1>2 3>4", NEVER, -1, 0, 0, 2, 0, 3, 0);
        parts("3>4 1>2", NEVER, -1, 0, 0, 2, 0, 3, 0);
        parts("1~0 2~0", "1=0 1~0 2~0", -1, -1, 0, 3, 0, 0, 0);
        parts("1~0 2~0", "2=0 1~0 2~0", -1, -1, 0, 0, 3, 0, 0);
        // What the cells hold goes ahead of the values.
        parts("1>2 3!0", "1>0 3!0", -1, -1, 1, 3, 1, 1, 0);
        parts("1>2 2!3", NEVER, -1, -1, 0, 3, 0, 1, 0);
        parts("1>2 2>3 3!0", NEVER, -1, 1, 2, 3, 2, 1, 0);
        parts("1>2 3>4 2!0 4!0", NEVER, -1, 1, 1, 2, 1, 3, 1);
        parts("1>2 3>4 2!0", NEVER, -1, 0, 1, 3, 1, 2, 0);
        // The name 1 counts most, the name 4 least.
        parts("1!4", NEVER, -1, -1, -1, 0, 0, 0, 1);
        parts("4!1", NEVER, -1, -1, -1, 0, 0, 0, 1);
        parts("1!0", NEVER, -1, -1, -1, 1, 0, 0, 0);
        parts("2!0", NEVER, -1, -1, -1, 0, 1, 0, 0);
        parts("3!0", NEVER, -1, -1, -1, 0, 0, 1, 0);
        parts("4!0", NEVER, -1, -1, -1, 0, 0, 0, 1);
        parts("1!0 1!4 4!0", NEVER, -1, -1, -1, 1, 0, 0, 2);
        parts("3!4 3!2 2!4", NEVER, -1, -1, -1, 0, 0, 1, 2);
        // A name in the other one alone.
        parts("", "3=0", -1, -1, -1, 0, 0, 1, 0);
        parts("", "4=2", -1, -1, -1, 0, 0, 0, 1);
        parts("", "1!2", -1, -1, -1, 0, 0, 0, 0);
    }

    @Sentence("BAD. MANY: f or g has a SPARE name; or 40 were asked.")
    static void p19bad() {
        Given given = Given.formulas("").upTo(59).formula("1>0");
        answers(given, 1, h -> h.differ(59, 0), h -> h.differ(0, 59), h -> h.differ(59, 58));
        changesNothing(given, HeapLaw.BAD, h -> h.differ(60, 0), h -> h.differ(0, 60), h -> h.differ(-1, 0),
            h -> h.differ(0, -1), h -> h.differ(60, 60));
        Given two = Given.cells(5).values(5).formula("").formula("1=0");
        answers(two, 1, h -> h.differ(0, 1));
        changesNothing(two, HeapLaw.BAD, h -> h.differ(2, 1), h -> h.differ(0, 2), h -> h.differ(-1, 1));
        for (int w : WILD) {
            changesNothing(two, HeapLaw.BAD, h -> h.differ(w, 0), h -> h.differ(0, w));
        }
    }

    @Sentence("BAD. MANY: f or g has a SPARE name; or 40 were asked.")
    static void p19manySpare() {
        for (int s = 5; s <= 7; s++) {
            for (String how : new String[] {"=", "!", ">", "~"}) {
                Given given = Given.cells(5).values(5).formula("").formula(s + how + "1").formula("1" + how + s)
                    .formula(NEVER);
                changesNothing(given, HeapLaw.MANY, h -> h.differ(0, 1), h -> h.differ(0, 2), h -> h.differ(1, 0),
                    h -> h.differ(2, 0), h -> h.differ(1, 1), h -> h.differ(3, 1), h -> h.differ(1, 3));
                changesNothing(given, HeapLaw.BAD, h -> h.differ(4, 1), h -> h.differ(1, 4), h -> h.differ(-1, 2));
                due("what was refused was not asked", given.led(h -> h.differ(0, 1)).count(1), 0);
            }
        }
        partsNot("4=4", "4=4 0=0");
    }

    @Sentence("BAD. MANY: f or g has a SPARE name; or 40 were asked.")
    static void p19many40() {
        Given.Call ask = h -> h.differ(0, 1);
        Given forty = Given.cells(5).formula("").formula("1=0").formula("5=5");
        HeapLaw h = forty.led();
        for (int i = 1; i <= 40; i++) {
            due("differ " + i, i % 2 == 0 ? h.differ(0, 0) : h.differ(0, 1), i % 2 == 0 ? 0 : 1);
            due("count(1)", h.count(1), i);
        }
        due("the 41st", h.differ(0, 1), HeapLaw.MANY);
        Given asked = forty.copy().times(39, ask).times(30, g -> g.differ(0, 2)).times(30, g -> g.differ(0, 3))
            .times(30, g -> g.differ(-1, 0));
        due("the 40th, refused ones not counted", asked.led().differ(0, 1), 1);
        Given spent = asked.copy().then(g -> g.differ(0, 0)).then(g -> g.cell(7, 7)).then(g -> g.set(2, 7));
        changesNothing(spent, HeapLaw.MANY, ask, g -> g.differ(0, 0), g -> g.differ(1, 0));
        changesNothing(spent, HeapLaw.BAD, g -> g.differ(0, 3), g -> g.differ(3, 0), g -> g.differ(-1, 0));
        due("formulas made later", spent.led(g -> g.drop(), g -> g.formula()).differ(0, 1), HeapLaw.MANY);
    }

    // ---- promise 20

    @Sentence("How many: 0 formulas, 1 how often differ() was carried out.")
    static void p20count() {
        Given given = Given.formulas("1=2", "1!1", "5=5");
        changesNothing(given, 3, h -> h.count(0));
        changesNothing(given, 0, h -> h.count(1));
        due("carried out, one found", given.led(h -> h.differ(0, 1)).count(1), 1);
        due("carried out, none found", given.led(h -> h.differ(1, 0)).count(1), 1);
        due("not carried out", given.led(h -> h.differ(0, 2), h -> h.differ(0, 3)).count(1), 0);
        due("a formula gone", given.led(h -> h.drop()).count(0), 2);
        due("no differ gone with it", given.led(h -> h.differ(0, 1), h -> h.drop()).count(1), 1);
        due("60", new Given().upTo(60).led().count(0), 60);
        due("60 and one refused", new Given().upTo(60).led(h -> h.formula()).count(0), 60);
        due("by beside", given.led(h -> h.beside(0, 1)).count(0), 4);
        due("by step", given.led(h -> h.step(0, 1, 3, 3)).count(0), 4);
    }

    @Sentence("BAD: another what.")
    static void p20bad() {
        Given given = Given.formulas("", "1=0").then(h -> h.differ(0, 1));
        changesNothing(given, HeapLaw.BAD, h -> h.count(-1), h -> h.count(2), h -> h.count(3));
        for (int w : WILD) {
            answers(given, HeapLaw.BAD, h -> h.count(w));
        }
        answers(given, 2, h -> h.count(0));
        answers(given, 1, h -> h.count(1));
    }
}
