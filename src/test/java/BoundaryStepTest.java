/** Part 2 of the terms and promise 18: one test for each sentence with a boundary. */
public final class BoundaryStepTest extends Boundary {
    public static void main(String[] args) throws Exception {
        judge(BoundaryStepTest.class, args);
    }

    private static final int[] NO_NAMES = {-1, 0, 5, 6, 7, 8, 9, -4, Integer.MIN_VALUE, Integer.MAX_VALUE};
    /** All SPARE names in use, saying nothing. */
    private static final String NO_SPARE = "5=5 6=6 7=7";

    /** So many PURE parts that say nothing of the names 1, 3, 4. */
    private static String pures(int many) {
        return repeat("2=2", many);
    }

    /** So many PARTS that get no cell. */
    private static String rows(int many) {
        return repeat("2~2", many);
    }

    // ---- KNOWN

    @Sentence("KNOWN: two terms are known to be the same in a formula if they are one term")
    static void knownAsOneTerm() {
        for (int t = 1; t <= 4; t++) {
            for (int x = 1; x <= 4; x++) {
                if (x == t) {
                    steps(t + ">0", 3, x, x, "");
                } else {
                    stepsNot(t + ">0", 3, x, x, HeapLaw.FAULT);
                }
            }
        }
        // Not known: that they must be the same all the same.
        stepsNot("1~2 2~1 1!2 3>0 3!1 3!2", 3, 4, 4, HeapLaw.FAULT);
        stepsNot("1!2 2>0", 3, 1, 1, HeapLaw.FAULT);
    }

    @Sentence("or a chain of EQUALS leads from one to the other.")
    static void knownByAChain() {
        steps("1=2 2>0", 3, 1, 1, "1=2");
        steps("2=1 2>0", 3, 1, 1, "2=1");
        // The longest chains, each link in either direction, in either order.
        steps("1=2 2=3 3=4 4=5 5=6 6=7 7>0", 3, 1, 1, "1=2 2=3 3=4 4=5 5=6 6=7");
        steps("6=7 5=6 4=5 3=4 2=3 1=2 7>0", 3, 1, 1, "6=7 5=6 4=5 3=4 2=3 1=2");
        steps("7=6 6=5 5=4 4=3 3=2 2=1 7>0", 3, 1, 1, "7=6 6=5 5=4 4=3 3=2 2=1");
        steps("2=1 3=2 4=3 5=4 6=5 7=6 7>0", 3, 1, 1, "2=1 3=2 4=3 5=4 6=5 7=6");
        steps("4=5 2=3 6=7 1=2 5=6 3=4 7>0", 3, 1, 1, "4=5 2=3 6=7 1=2 5=6 3=4");
        steps(all(repeat("0=0", 14), "5=1 2=5 2>0"), 3, 1, 1, all(repeat("0=0", 14), "5=1 2=5"));
        // One link is missing, or is no EQUAL.
        stepsNot("1=2 3=4 4>0", 3, 1, 1, HeapLaw.FAULT);
        stepsNot("1=2 2!3 3=4 4>0", 3, 1, 1, HeapLaw.FAULT);
        stepsNot("1=2 2=3 3=4 4=5 6=7 7>0", 3, 1, 1, HeapLaw.FAULT);
        // NIL is a link like another one: the ROW is known, and opened.
        stepsNot(all("1=0 0=3", pures(14), "3~4"), 3, 1, 1, HeapLaw.SPENT);
        stepsNot(all("1=0 0=3", pures(13), "3~4"), 3, 1, 1, HeapLaw.FAULT);
        stepsNot(all("1=0 4=3", pures(14), "3~4"), 3, 1, 1, HeapLaw.FAULT);
        // All eight terms in one chain, the last link first.
        stepsNot(all("7=0 6=7 5=6 4=5 3=4 2=3 1=2", pures(9), "0~2"), 3, 1, 1, HeapLaw.SPENT);
        stepsNot(all("7=0 6=7 5=6 4=5 3=4 2=3 1=2", pures(8), "0~2"), 3, 1, 1, HeapLaw.FAULT);
        stepsNot(all("7=0 6=7 5=6 4=5 3=4 2=3", pures(10), "0~2"), 3, 1, 1, HeapLaw.FAULT);
    }

    // ---- the CASES

    @Sentence("first the formula itself is a CASE. A CASE that no memory FITS (in the sense of 3) gives nothing.")
    static void unfitCaseGivesNothing() {
        for (int act = 0; act < 8; act++) {
            stepsNot("1!1", act, 1, 2, 0);
            stepsNot("0>1", act, 3, 4, 0);
            stepsNot("1>2 1>3", act, 1, 2, 0);
            stepsNot(all(NO_SPARE, "1!1 1~0"), act, 1, 2, 0);
            stepsNot(all(pures(15), "2!2 1>2"), act, 1, 2, 0);
            stepsNot(all("1=0 1>3", rows(9)), act, 1, 2, 0);
        }
        // In the sense of 3: the MEMORY does not count.
        Given given = Given.cells(0).values(1).formula("1!0");
        makes(given, 1, h -> h.step(0, 1, 2, 2), 1, "1!0 2=0");
        makes(Given.formulas("1>2"), 1, h -> h.step(0, 1, 3, 3), 1, "3=0 1>2");
    }

    @Sentence("A CASE that no memory FITS (in the sense of 3) gives nothing.")
    static void unfitOpenedCaseGivesNothing() {
        steps("1!2 1~2", 3, 1, 1, "1!2 5~2");
        steps("1=2 1~2 2>0", 3, 1, 1, "1=2 1~2");
        // Of the two CASES both are fit, just the second one, just the first one.
        steps("1~2 2>0", 3, 1, 1, "1=2", "1!2 5~2 2>0");
        steps("1~2 2>0 1!2", 3, 1, 1, "1!2 5~2 2>0");
        steps("1=2 2!3 1~2 2~3", 3, 1, 1, "1=2 2!3 5~3");
        // With the CELL that opening makes, another ROW from there could only be empty.
        steps("1!3 1~2 1~3", 3, 1, 1, "1!3 1=2 5~3");
    }

    @Sentence("For 3, 4, 5: let t be the name whose cell is needed; the first CELL whose x is known to be t is used")
    static void cellUsed() {
        steps("1>2 2>0", 3, 1, 1, "2>0");
        steps("1>2 2>0", 3, 2, 1, "1>2");
        steps("1>2 2>0", 4, 3, 2, "3=0 1>2 2>0");
        steps("1>2 2>0", 4, 3, 1, "3=2 1>2 2>0");
        steps("1>2 2>0", 5, 2, 1, "1>2 2>1");
        // A CELL goes ahead of a ROW that came earlier.
        steps("1~2 1>3", 3, 1, 1, "1~2");
        steps("1~1 2~2 1~2 1>3", 4, 4, 1, "4=3 1~1 2~2 1~2 1>3");
        // Where it stands does not count.
        steps(all(rows(9), "1>3"), 3, 1, 1, rows(9));
        steps(all("1>3", rows(9)), 3, 1, 1, rows(9));
        steps(all(rows(4), "1>3", rows(5)), 5, 1, 4, all(rows(4), "1>4", rows(5)));
    }

    @Sentence("if there is none, the first ROW whose x is known to be t is OPENED")
    static void rowOpened() {
        steps("1!2 1!0 2~0 1~0", 3, 1, 1, "1!2 1!0 2~0 5~0");
        steps("1!3 1~2 1~3", 3, 1, 1, "1!3 1=2 5~3");
        steps("1!3 1~3 1~2", 3, 1, 1, "1!3 5~3 1~2");
        steps("1=4 1!3 2~3 4~3 1~1", 3, 1, 1, "1=4 1!3 4!3 2~3 5~3 1~1");
        steps("4!0 4~0", 4, 3, 4, "4!0 3=5 4>5 5~0");
        steps("4!0 4~0", 5, 4, 3, "4!0 4>3 5~0");
    }

    @Sentence("the first one being made and gone through to its end ahead of the other one's being made")
    static void firstCaseToItsEnd() {
        steps("1~2 2~3 3>4", 3, 1, 1, "1=2 2=3", "1=2 2!3 5~3 3>4", "1!2 5~2 2~3 3>4");
        steps("1~2 2~3 3~4 4>0", 3, 1, 1, "1=2 2=3 3=4", "1=2 2=3 3!4 5~4 4>0", "1=2 2!3 5~3 3~4 4>0",
            "1!2 5~2 2~3 3~4 4>0");
        // The most ROWS that can be opened, one in the place of another one.
        steps(all("1!0", repeat("1~1", 8), "1~0"), 3, 1, 1, "1!0 1=1 5~0");
        stepsNot(all("1!0", repeat("1~1", 9), "1~0"), 3, 1, 1, HeapLaw.SPENT);
        stepsNot(repeat("1~1", 10), 3, 1, 1, HeapLaw.FAULT);
        stepsNot(all(NO_SPARE, repeat("1~1", 10)), 3, 1, 1, HeapLaw.FAULT);
        // A FAULT in the first one, though the other one could not be made.
        stepsNot(all(NO_SPARE, "1~0"), 3, 1, 1, HeapLaw.FAULT);
        stepsNot(all(rows(9), "1~0"), 3, 1, 1, HeapLaw.FAULT);
        // The first one goes well, then the other one cannot be made.
        stepsNot(all(NO_SPARE, "1~2 2>0"), 3, 1, 1, HeapLaw.SPENT);
        stepsNot(all(rows(8), "1~2 2>0"), 3, 1, 1, HeapLaw.SPENT);
        // The first one is SPENT in its making, or on its way, ahead of any FAULT.
        stepsNot(all(pures(16), "1~0"), 3, 1, 1, HeapLaw.SPENT);
        stepsNot(all(pures(15), "1~0"), 3, 1, 1, HeapLaw.FAULT);
        stepsNot(all(pures(15), "1~3 3~0"), 3, 1, 1, HeapLaw.SPENT);
        stepsNot(all(pures(14), "1~3 3~0"), 3, 1, 1, HeapLaw.FAULT);
    }

    @Sentence("without that ROW, and x EQUAL to y (of it) at the end")
    static void emptyCase() {
        steps("3!0 1~2 2>0", 5, 1, 3, "3!0 1=2 2>3", "3!0 1!2 1>3 5~2 2>0");
        steps("4=1 4~2 3>0 2>4", 3, 1, 1, "4=1 4=2 3>0", "4=1 4!2 5~2 3>0 2>4");
        // First, amid and last of the PARTS.
        steps("1~2 2>0 3>0", 5, 1, 4, "1=2 2>4 3>0", "1!2 1>4 5~2 2>0 3>0");
        steps("2>0 1~2 3>0", 5, 1, 4, "1=2 2>4 3>0", "1!2 2>0 1>4 5~2 3>0");
        steps("2>0 3>0 1~2", 5, 1, 4, "1=2 2>4 3>0", "1!2 2>0 3>0 1>4 5~2");
        // The 16th PURE part is put, a 17th is SPENT.
        steps(all(pures(15), "1~2 2>0"), 3, 1, 1, all(pures(15), "1=2"), all(pures(15), "1!2 5~2 2>0"));
        stepsNot(all(pures(16), "1~2 2>0"), 3, 1, 1, HeapLaw.SPENT);
    }

    @Sentence("and with a CELL from x to s in its place and a ROW from s to y right behind it, and x OTHER than y at the end")
    static void longerCase() {
        steps("1!0 3>0 1~0 4>0", 5, 1, 2, "1!0 3>0 1>2 5~0 4>0");
        steps("1!0 1~0 3>0 4>0", 4, 2, 1, "1!0 2=5 1>5 5~0 3>0 4>0");
        steps("1!0 3>0 4>0 1~0", 4, 2, 1, "1!0 2=5 3>0 4>0 1>5 5~0");
        steps("0!1 1~0", 3, 1, 1, "0!1 1!0 5~0");
        // The 10th PART is put, an 11th is SPENT, though the act would take one away.
        steps(all("1!0", rows(8), "1~0"), 3, 1, 1, all("1!0", rows(8), "5~0"));
        stepsNot(all("1!0", rows(9), "1~0"), 3, 1, 1, HeapLaw.SPENT);
        stepsNot(all("1!0", rows(9), "1~0"), 4, 3, 1, HeapLaw.SPENT);
        stepsNot(all("1!0 1~0", rows(9)), 5, 1, 3, HeapLaw.SPENT);
        // The 16th PURE part is put, a 17th is SPENT.
        steps(all(pures(14), "0!1 1~0"), 3, 1, 1, all(pures(14), "0!1 1!0 5~0"));
        stepsNot(all(pures(15), "0!1 1~0"), 3, 1, 1, HeapLaw.SPENT);
    }

    @Sentence("s being the least SPARE name that is not in it.")
    static void spareOfOpening() {
        steps("1!0 1~0", 3, 1, 1, "1!0 5~0");
        steps("1!0 5=5 1~0", 3, 1, 1, "1!0 5=5 6~0");
        steps("1!0 6=6 1~0", 3, 1, 1, "1!0 6=6 5~0");
        steps("1!0 1~0 5~6", 3, 1, 1, "1!0 7~0 5~6");
        steps("1!0 1~0 7~5", 3, 1, 1, "1!0 6~0 7~5");
        steps("1!6 1~6", 3, 1, 1, "1!6 5~6");
        steps("1!5 1~5", 3, 1, 1, "1!5 6~5");
        stepsNot("1!0 5!6 7=7 1~0", 3, 1, 1, HeapLaw.SPENT);
        stepsNot("1!0 1~0 5~6 7~7", 3, 1, 1, HeapLaw.SPENT);
    }

    @Sentence("If there is no such ROW either, it is a FAULT.")
    static void noRowIsAFault() {
        for (int act = 3; act <= 5; act++) {
            stepsNot("", act, 1, 1, HeapLaw.FAULT);
            stepsNot("1=2 2!3 3>1 3~4 0~1", act, 1, 1, HeapLaw.FAULT);
            stepsNot("1~0", act, 1, 1, HeapLaw.FAULT);
            stepsNot("1=0", act, 1, 1, HeapLaw.FAULT);
            stepsNot(all(NO_SPARE, pures(13), rows(10)), act, 1, 1, HeapLaw.FAULT);
        }
        // It is x's cell in 3 and 5, y's in 4.
        stepsNot("2>0", 3, 1, 2, HeapLaw.FAULT);
        stepsNot("1>0", 4, 1, 2, HeapLaw.FAULT);
        stepsNot("2>0", 5, 1, 2, HeapLaw.FAULT);
        steps("1>0", 3, 1, 2, "");
        steps("2>0", 4, 1, 2, "1=0 2>0");
        steps("1>0", 5, 1, 2, "1>2");
        // The other acts need none.
        for (int act : new int[] {0, 1, 2, 6, 7}) {
            answers(Given.formulas(""), 1, h -> h.step(0, act, 1, 2));
        }
    }

    // ---- what a CASE becomes

    @Sentence("Then a CASE becomes: 3: without the CELL.")
    static void withoutTheCell() {
        steps("1>2", 3, 1, 1, "");
        steps("1=2 1>2 3~0", 3, 1, 1, "1=2 3~0");
        steps("2~0 1>2 3>0", 3, 1, 1, "2~0 3>0");
        steps("2~0 3>0 1>2", 3, 1, 1, "2~0 3>0");
        steps(all(NO_SPARE, pures(13), "1>2", rows(9)), 3, 1, 1, all(NO_SPARE, pures(13), rows(9)));
    }

    @Sentence("5: that CELL goes to y.")
    static void cellGoesTo() {
        steps("1>2", 5, 1, 1, "1>1");
        steps("1>2", 5, 1, 2, "1>2");
        steps("3=1 3>2 2>0", 5, 1, 4, "3=1 3>4 2>0");
        steps(all(NO_SPARE, pures(13), "1>2", rows(9)), 5, 1, 4, all(NO_SPARE, pures(13), "1>4", rows(9)));
    }

    @Sentence("If x is in the formula, all its places become the least SPARE name that is not in it")
    static void placesOfX() {
        steps("2!0", 1, 1, 1, "2!0 1=0");
        steps("1!0", 1, 1, 1, "5!0 1=0");
        steps("0!1", 1, 1, 1, "0!5 1=0");
        steps("1>2", 1, 1, 1, "1=0 5>2");
        steps("2~1", 1, 1, 1, "1=0 2~5");
        steps("1=1 1!0 3!1 1>1 2~1 1~1", 1, 1, 1, "5=5 5!0 3!5 1=0 5>5 2~5 5~5");
        steps("4=5 4>0", 1, 4, 1, "6=5 4=0 6>0");
        steps("4=6 4>0", 1, 4, 1, "5=6 4=0 5>0");
        steps("4=5 4>6", 1, 4, 1, "7=5 4=0 7>6");
        steps("4!7 4>5", 0, 4, 1, "6!7 4=1 6>5");
        steps("4!7 4>0", 2, 4, 1, "5!7 5>0 4>6");
    }

    @Sentence("SPENT: a SPARE name is needed, and none is free")
    static void spentBySpareNames() {
        stepsNot(all(NO_SPARE, "1!0"), 0, 1, 2, HeapLaw.SPENT);
        stepsNot(all(NO_SPARE, "1!0"), 1, 1, 2, HeapLaw.SPENT);
        stepsNot(all(NO_SPARE, "1!0"), 2, 1, 2, HeapLaw.SPENT);
        stepsNot(all(NO_SPARE, "1>2"), 4, 1, 1, HeapLaw.SPENT);
        stepsNot(all(NO_SPARE, "1~1 2>0"), 4, 1, 2, HeapLaw.SPENT);
        stepsNot("2!0 5!6 3~7", 2, 1, 2, HeapLaw.SPENT);
        // None is needed.
        steps(all(NO_SPARE, "2!0"), 0, 1, 2, all(NO_SPARE, "2!0 1=2"));
        steps(all(NO_SPARE, "2!0"), 1, 1, 2, all(NO_SPARE, "2!0 1=0"));
        steps(all(NO_SPARE, "2>0"), 4, 1, 2, all(NO_SPARE, "1=0 2>0"));
        steps(all(NO_SPARE, "1>0"), 3, 1, 1, NO_SPARE);
        steps(all(NO_SPARE, "1>0"), 5, 1, 2, all(NO_SPARE, "1>2"));
        steps(all(NO_SPARE, "1>0"), 6, 1, 2, all(NO_SPARE, "1=2 1>0"));
        steps(all(NO_SPARE, "1>0"), 7, 1, 2, all(NO_SPARE, "1!2 1>0"));
        // Of 2 the one that is free is enough for x's places or for the CELL, not for both.
        steps("5=5 6=6 2!0", 2, 1, 2, "5=5 6=6 2!0 1>7");
        stepsNot("5=5 6=6 1!0", 2, 1, 2, HeapLaw.SPENT);
        steps("5=5 1!0", 2, 1, 2, "5=5 6!0 1>7");
    }

    @Sentence("or there would be too many PURE parts or PARTS.")
    static void spentByParts() {
        steps(pures(15), 0, 1, 3, all(pures(15), "1=3"));
        steps(pures(15), 1, 1, 3, all(pures(15), "1=0"));
        steps(all(pures(15), "3>4"), 4, 1, 3, all(pures(15), "1=4 3>4"));
        steps(pures(15), 6, 1, 3, all(pures(15), "1=3"));
        steps(pures(15), 7, 1, 3, all(pures(15), "1!3"));
        stepsNot(pures(16), 0, 1, 3, HeapLaw.SPENT);
        stepsNot(pures(16), 1, 1, 3, HeapLaw.SPENT);
        stepsNot(all(pures(16), "3>4"), 4, 1, 3, HeapLaw.SPENT);
        stepsNot(pures(16), 6, 1, 3, HeapLaw.SPENT);
        stepsNot(pures(16), 7, 1, 3, HeapLaw.SPENT);
        // It comes up ahead of the question whether a memory FITS what would come.
        stepsNot(pures(16), 7, 1, 1, HeapLaw.SPENT);
        stepsNot(all(pures(15), "1!3"), 6, 1, 3, HeapLaw.SPENT);
        steps(rows(9), 2, 1, 3, all(rows(9), "1>5"));
        stepsNot(rows(10), 2, 1, 3, HeapLaw.SPENT);
        // The other kind may be full.
        steps(all(pures(16), rows(9)), 2, 1, 3, all(pures(16), rows(9), "1>5"));
        steps(all(pures(15), rows(10)), 1, 1, 3, all(pures(15), "1=0", rows(10)));
        steps(all(pures(16), "1>3", rows(9)), 3, 1, 1, all(pures(16), rows(9)));
        steps(all(pures(16), "1>3", rows(9)), 5, 1, 4, all(pures(16), "1>4", rows(9)));
    }

    @Sentence("if v is x, it becomes that name, too")
    static void whatXBecomesIsX() {
        steps("1>1", 4, 1, 1, "1=5 5>5");
        steps("2>1", 4, 1, 2, "1=5 2>5");
        steps("5=5 2>1", 4, 1, 2, "5=5 1=6 2>6");
        steps("1>2", 4, 1, 1, "1=2 5>2");
        steps("1>0", 4, 1, 1, "1=0 5>0");
        steps("2>7", 4, 1, 2, "1=7 2>7");
        stepsNot(all(NO_SPARE, "2>1"), 4, 1, 2, HeapLaw.SPENT);
    }

    @Sentence("(in 0 with x the same as y nothing is changed at all)")
    static void becomesItself() {
        for (int x = 1; x <= 4; x++) {
            steps("", 0, x, x, "");
            steps("1=2 3!4 1>0 3~2", 0, x, x, "1=2 3!4 1>0 3~2");
            steps(all(NO_SPARE, pures(13), rows(10)), 0, x, x, all(NO_SPARE, pures(13), rows(10)));
            stepsNot("2!2", 0, x, x, 0);
        }
        // The same name, that is, not one that is known to be the same.
        steps("1=2 1>0", 0, 1, 2, "5=2 1=2 5>0");
        steps("1=2 1>0", 0, 2, 1, "1=5 2=1 1>0");
    }

    @Sentence("Then, at the end, x EQUAL to v; or (2), as the last PART, a CELL from x to the least SPARE name that is not in it then.")
    static void atTheEnd() {
        steps("1!0 2>0", 0, 1, 2, "5!0 1=2 2>0");
        steps("1!0 2>0", 1, 1, 2, "5!0 1=0 2>0");
        steps("1!0 2>3", 4, 1, 2, "5!0 1=3 2>3");
        steps("2!0 2>0", 2, 1, 2, "2!0 2>0 1>5");
        steps("1!0 2>0", 2, 1, 2, "5!0 2>0 1>6");
        steps("1!6 2>0", 2, 1, 2, "5!6 2>0 1>7");
        steps("1!5 2>0", 2, 1, 2, "6!5 2>0 1>7");
        steps("6!2 7>0", 2, 1, 2, "6!2 7>0 1>5");
        steps("", 2, 4, 1, "4>5");
    }

    @Sentence("6, 7: x EQUAL to, OTHER than y, at the end.")
    static void asked() {
        steps("2!0 1>3", 6, 1, 2, "2!0 1=2 1>3");
        steps("2!0 1>3", 7, 1, 2, "2!0 1!2 1>3");
        steps("2!0", 6, 2, 1, "2!0 2=1");
        steps("", 6, 3, 3, "3=3");
        stepsNot("", 7, 3, 3, 0);
    }

    @Sentence("What no memory FITS then gives nothing, too.")
    static void unfitThen() {
        stepsNot("1=2", 7, 1, 2, 0);
        stepsNot("1=2", 7, 2, 1, 0);
        stepsNot("1!2", 6, 2, 1, 0);
        stepsNot("1>0 2>0", 6, 1, 2, 0);
        stepsNot("1>0 2=0", 6, 1, 2, 0);
        stepsNot("1=3 3=2", 7, 1, 2, 0);
        // No MEMORY is asked, nor how many formulas there are.
        changesNothing(Given.formulas("1=2").upTo(60), 0, h -> h.step(0, 7, 1, 2));
    }

    @Sentence("(A PURE part that stands there already, with the same terms in the same order, is not put once more.)")
    static void notOnceMore() {
        steps("1=2", 6, 1, 2, "1=2");
        steps("1=2", 6, 2, 1, "1=2 2=1");
        steps("1!2", 7, 1, 2, "1!2");
        steps("1!2", 7, 2, 1, "1!2 2!1");
        steps("1=2 3=4 1>0", 6, 1, 2, "1=2 3=4 1>0");
        steps("3=4 1=2 1>0", 6, 1, 2, "3=4 1=2 1>0");
        // An OTHER with the same terms is another PURE part.
        stepsNot("1!2", 6, 1, 2, 0);
        stepsNot("1=2", 7, 1, 2, 0);
        // It is not too many then, and what stood there twice stays.
        steps(all(pures(15), "1=3"), 6, 1, 3, all(pures(15), "1=3"));
        steps(all("1!3", pures(15)), 7, 1, 3, all("1!3", pures(15)));
        stepsNot(all(pures(15), "1=3"), 6, 3, 1, HeapLaw.SPENT);
        steps(pures(16), 6, 2, 2, pures(16));
        // In opening, too: EQUAL with the 16 that stand there, OTHER once the other one has been made.
        stepsNot(all(pures(15), "1=0 1~0"), 3, 1, 1, HeapLaw.FAULT);
        stepsNot(all(pures(15), "0=1 1~0"), 3, 1, 1, HeapLaw.SPENT);
        steps("1=2 2!3 1~2 2~3", 3, 1, 1, "1=2 2!3 5~3");
        steps("1!0 1~0", 3, 1, 1, "1!0 5~0");
        steps("0!1 1~0", 3, 1, 1, "0!1 1!0 5~0");
        steps(all(pures(14), "1!0 1~0"), 3, 1, 1, all(pures(14), "1!0 5~0"));
    }

    // ---- promise 18

    @Sentence("f is STEPPED; what comes of it are new formulas, numbered in their order: how many.")
    static void p18howMany() {
        Given given = Given.formulas("1!1", "1~2 2>0", "3>4");
        answers(given, 0, h -> h.step(0, 0, 1, 2));
        answers(given, 2, h -> h.step(1, 3, 1, 1));
        answers(given, 1, h -> h.step(2, 3, 3, 1));
        String before = given.look();
        due("those there stay", given.look(h -> h.step(1, 3, 1, 1)), before + " [1=2] [1!2 5~2 2>0]");
        due("step upon step", given.look(h -> h.step(1, 3, 1, 1), h -> h.step(4, 1, 2, 0), h -> h.step(3, 1, 3, 0)),
            before + " [1=2] [1!2 5~2 2>0] [1!6 2=0 5~6 6>0] [1=2 3=0]");
        // ROW behind ROW, each of which may be the first that is not empty.
        steps("1!0 1~2 2~3 3~4 4~0", 5, 1, 2, "1!0 1=2 2=3 3=4 4!0 4>2 5~0", "1!0 1=2 2=3 3!4 3>2 5~4 4~0",
            "1!0 1=2 2!3 2>2 5~3 3~4 4~0", "1!0 1!2 1>2 5~2 2~3 3~4 4~0");
        String six = "1!0 1~2 2~3 3~4 4~5 5~6 6~0";
        due("six ROWS", Given.formulas(six).led().step(0, 5, 1, 2), 6);
        due("the first of six", Given.shown(Given.formulas(six).led(h -> h.step(0, 5, 1, 2)), 1),
            "1!0 1=2 2=3 3=4 4=5 5=6 6!0 6>2 7~0");
        due("the last of six", Given.shown(Given.formulas(six).led(h -> h.step(0, 5, 1, 2)), 6),
            "1!0 1!2 1>2 7~2 2~3 3~4 4~5 5~6 6~0");
    }

    @Sentence("f is STEPPED; what comes of it are new formulas, numbered in their order: how many.")
    static void p18memoryStays() {
        Given given = Given.cells(2, 0).values(1, 2, 3, 4).formula("1>2 2~0").then(h -> h.differ(0, 0));
        String memory = Given.memoryOf(given.led());
        for (int i = 0; i < 8; i++) {
            int act = i;
            due("memory", Given.memoryOf(given.led(h -> h.step(0, act, 1, 1))), memory);
        }
    }

    @Sentence("BAD: no such formula, act, names. SPENT, FAULT")
    static void p18bad() {
        Given given = Given.formulas("1>2 2~0", "1~0", all(NO_SPARE, "1!0"));
        for (int i = 0; i < 8; i++) {
            int act = i;
            changesNothing(given, HeapLaw.BAD, h -> h.step(3, act, 1, 2), h -> h.step(-1, act, 1, 2),
                h -> h.step(59, act, 1, 2), h -> h.step(60, act, 1, 2));
            for (int n : NO_NAMES) {
                changesNothing(given, HeapLaw.BAD, h -> h.step(0, act, n, 1), h -> h.step(0, act, n, n),
                    h -> h.step(1, act, n, 1), h -> h.step(2, act, n, 1));
                if (act == 0 || act >= 4) {
                    changesNothing(given, HeapLaw.BAD, h -> h.step(0, act, 1, n), h -> h.step(1, act, 1, n),
                        h -> h.step(2, act, 1, n));
                }
            }
        }
        for (int f = 0; f < 3; f++) {
            int of = f;
            changesNothing(given, HeapLaw.BAD, h -> h.step(of, -1, 1, 2), h -> h.step(of, 8, 1, 2),
                h -> h.step(of, 9, 1, 2));
        }
        for (int w : WILD) {
            changesNothing(given, HeapLaw.BAD, h -> h.step(w, 0, 1, 2), h -> h.step(0, w, 1, 2),
                h -> h.step(0, 0, w, 2), h -> h.step(0, 0, 1, w));
        }
    }

    @Sentence("BAD: no such formula, act, names. SPENT, FAULT")
    static void p18firstAndLastOfAll() {
        makes(Given.formulas("1!0").upTo(59), 1, h -> h.step(0, 1, 2, 0), 59, "1!0 2=0");
        makes(new Given().upTo(58).formula("1!0"), 1, h -> h.step(58, 1, 2, 0), 59, "1!0 2=0");
        changesNothing(new Given().upTo(58).formula("1!0"), HeapLaw.BAD, h -> h.step(59, 1, 2, 0));
        for (int name = 1; name <= 4; name++) {
            int n = name, other = name == 4 ? 1 : name + 1;
            steps("", 0, n, other, n + "=" + other);
            steps("", 1, n, 0, n + "=0");
            steps("", 2, n, 0, n + ">5");
            steps(n + ">0", 3, n, 0, "");
            steps(n + ">0", 4, other, n, other + "=0 " + n + ">0");
            steps(n + ">0", 5, n, other, n + ">" + other);
            steps("", 6, n, other, n + "=" + other);
            steps("", 7, n, other, n + "!" + other);
        }
    }

    @Sentence("SPENT, FAULT (whichever comes up first, going through the CASES in order, the two of an opened one in the place of it).")
    static void p18whicheverFirst() {
        // FAULT in the first CASE, SPENT in the second one.
        stepsNot(all(NO_SPARE, "1~0"), 3, 1, 1, HeapLaw.FAULT);
        stepsNot(all(rows(9), "1~0"), 3, 1, 1, HeapLaw.FAULT);
        // SPENT in the first CASE of the first CASE, which is made ahead of what would be a FAULT.
        stepsNot(all(pures(15), "1~3 3~0"), 3, 1, 1, HeapLaw.SPENT);
        // In the second CASE of the first one SPENT; in the first CASE of it nothing, as none is fit.
        stepsNot(all(NO_SPARE, "3!0 1~3 3~0"), 3, 1, 1, HeapLaw.SPENT);
        // FAULT in the second ROW, which is opened in the place of the first one.
        stepsNot("1~3 3~0", 3, 1, 1, HeapLaw.FAULT);
        stepsNot(all(NO_SPARE, "1~3 3~0"), 3, 1, 1, HeapLaw.FAULT);
        // All goes well at first: what was made so far goes with the rest.
        stepsNot("5=5 6=6 1~2 2~3 3>4", 4, 1, 1, HeapLaw.SPENT);
        stepsNot(all(rows(8), "1~2 2>4"), 3, 1, 1, HeapLaw.SPENT);
    }

    @Sentence("FULL (asked last): there would be more than 60.")
    static void p18full() {
        String two = "1~2 2>0";
        Given fits = Given.formulas(two).upTo(58);
        due("two more", fits.led().step(0, 3, 1, 1), 2);
        due("there are 60", fits.led(h -> h.step(0, 3, 1, 1)).count(0), 60);
        makes(fits, 2, h -> h.step(0, 3, 1, 1), 59, "1!2 5~2 2>0");
        changesNothing(Given.formulas(two).upTo(59), HeapLaw.FULL, h -> h.step(0, 3, 1, 1));
        answers(Given.formulas(two).upTo(59), 1, h -> h.step(0, 6, 1, 2), h -> h.step(0, 1, 3, 1));
        Given full = Given.formulas(two, "1~0", all(NO_SPARE, "1!0 1~0"), "1!1").upTo(60);
        changesNothing(full, HeapLaw.FULL, h -> h.step(0, 3, 1, 1), h -> h.step(0, 6, 1, 2), h -> h.step(0, 1, 3, 1));
        // Asked last: behind BAD, FAULT and SPENT; and there may be nothing to put.
        changesNothing(full, HeapLaw.FAULT, h -> h.step(1, 3, 1, 1));
        changesNothing(full, HeapLaw.SPENT, h -> h.step(2, 3, 1, 1), h -> h.step(2, 1, 1, 1));
        changesNothing(full, HeapLaw.BAD, h -> h.step(60, 3, 1, 1), h -> h.step(0, 8, 1, 1), h -> h.step(0, 3, 5, 1),
            h -> h.step(0, 6, 1, 5));
        changesNothing(full, 0, h -> h.step(0, 7, 1, 1), h -> h.step(3, 0, 1, 2), h -> h.step(3, 3, 1, 2));
    }
}
