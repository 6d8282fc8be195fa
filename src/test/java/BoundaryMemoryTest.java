/** Promises 9 to 15, and what part 1 of the terms says of memories: one test for each sentence with a boundary. */
public final class BoundaryMemoryTest extends Boundary {
    public static void main(String[] args) throws Exception {
        judge(BoundaryMemoryTest.class, args);
    }

    /** Numbers just outside of the names 1 .. 4, and far off. */
    private static final int[] NO_NAMES = {-1, 0, 5, 6, 7, 8, 9, -4, Integer.MIN_VALUE, Integer.MAX_VALUE};

    private static Given full() {
        return Given.cells(2, 3, 4, 5, 6, 7, 8, 9, 0).values(1, 9, 0, 5);
    }

    // ---- terms, part 1

    @Sentence("each holding an address 0 .. 9 (0 is NIL, no cell is there)")
    static void cellsEverywhereButAtNil() {
        for (int address = 1; address <= 9; address++) {
            for (int a = 0; a <= 9; a++) {
                int at = address, held = a;
                HeapLaw h = new Given().led(g -> g.cell(at, held));
                due("holds", h.holds(address), a);
                due("held", h.held(), 1);
            }
        }
        changesNothing(full(), HeapLaw.BAD, h -> h.cell(0, 0), h -> h.cell(0, 9), h -> h.cell(0, -1));
        changesNothing(full(), -1, h -> h.holds(0));
        fits(full(), "0>0", 0);
        fits(full(), "0>1 1~0", 0);
        fits(new Given(), "0>0", 0);
        fits(new Given().values(9), "0~1", 0);
        changesNothing(full(), HeapLaw.FAULT, h -> h.run(3, 3, 0, 0), h -> h.run(4, 1, 3, 0), h -> h.run(5, 3, 1, 0));
    }

    @Sentence("and a VALUE, an address, for each NAME 1 .. 4.")
    static void valuesOfNames() {
        for (int name = 1; name <= 4; name++) {
            for (int a = 0; a <= 9; a++) {
                int of = name, value = a;
                HeapLaw h = new Given().led(g -> g.set(of, value));
                for (int other = 1; other <= 4; other++) {
                    due("value", h.value(other), other == name ? a : 0);
                }
            }
        }
    }

    @Sentence("NAMES 5, 6, 7 are SPARE.")
    static void spareNamesHaveNoValue() {
        Given given = full().formula("5=6 7>7");
        for (int s = 5; s <= 7; s++) {
            int spare = s;
            changesNothing(given, HeapLaw.BAD, h -> h.set(spare, 1), h -> h.value(spare), h -> h.run(0, spare, 1, 0),
                h -> h.run(0, 1, spare, 0), h -> h.step(0, 0, spare, 1), h -> h.step(0, 0, 1, spare));
            due("says", Given.formulas("", spare + "=" + spare).led().says(0, 1), HeapLaw.MANY);
            due("differ", Given.formulas("", spare + "=" + spare).led().differ(0, 1), HeapLaw.MANY);
        }
        due("4 is none", Given.formulas("", "4=4").led().says(0, 1), 1);
        due("4 is none", Given.formulas("", "4=4").led().differ(0, 1), 0);
    }

    @Sentence("terms that are EQUAL have the same value, those that are OTHER not")
    static void equalAndOther() {
        for (int v = 0; v <= 9; v++) {
            for (int w = 0; w <= 9; w++) {
                Given given = new Given().values(0, v, 0, w);
                fits(given, "2=4", v == w ? 1 : 0);
                fits(given, "2!4", v == w ? 0 : 1);
                fits(given, "0=4", w == 0 ? 1 : 0);
                fits(given, "4!0", w == 0 ? 0 : 1);
                fits(given, "4=4 2=2 0=0", 1);
                fits(given, "4!4", 0);
            }
        }
        fits(new Given(), "0!0", 0);
        // Each of them counts: the first and the last of 16.
        Given given = new Given().values(1, 2);
        fits(given, repeat("1!2", 16), 1);
        fits(given, all("1=2", repeat("1!2", 15)), 0);
        fits(given, all(repeat("1!2", 15), "1=2"), 0);
    }

    @Sentence("and the cells can be dealt out to the PARTS, each cell to just one of them")
    static void eachCellOnce() {
        fits(new Given(), "", 1);
        fits(Given.cells(0), "", 0);
        fits(Given.cells(-1, -1, -1, -1, -1, -1, -1, -1, 0), "", 0);
        Given two = Given.cells(2, 0).values(1, 2);
        fits(two, "1>2 2>0", 1);
        fits(two, "2>0 1>2", 1);
        fits(two, "1>2", 0);
        fits(two, "2>0", 0);
        fits(two, "1>2 2>0 2>0", 0);
        fits(two, "1>2 1>2", 0);
        fits(two, "1~0", 1);
        fits(two, "1~0 2~0", 0);
        fits(two, "1~0 2>0", 0);
        fits(two, "2>0 1~0", 0);
        fits(two, "1~2 2~0", 1);
        fits(two, "1~2 1~2 2~0", 0);
        fits(two, "1~0 3~0 0~3 2~2", 1);
        fits(full(), "1~2 2>0", 1);
        fits(full(), "1~4 4~2 2~3", 1);
        fits(full(), "1~4 4~2", 0);
        fits(full(), "4~2 2~3", 0);
        fits(full(), all("1~3", repeat("3~0", 9)), 1);
        fits(full(), all(repeat("3~0", 9), "1~3"), 1);
        fits(full(), all(repeat("3~0", 9), "1~2"), 0);
    }

    @Sentence("so that a CELL from x to y gets just one, at x's value, holding y's")
    static void cellGetsOne() {
        Given none = new Given().values(9, 9, 0, 4);
        Given looped = Given.cells(-1, -1, -1, -1, -1, -1, -1, -1, 9).values(9, 9, 0, 4);
        fits(none, "1>2", 0);
        fits(looped, "1>2", 1);
        fits(looped, "1>1", 1);
        fits(looped, "2>1", 1);
        fits(looped, "1>0", 0);
        fits(looped, "1>4", 0);
        fits(looped, "3>1", 0);
        fits(looped, "4>1", 0);
        fits(full(), "1>0", 0);
        for (int a = 0; a <= 9; a++) {
            Given one = Given.cells(a).values(1, a);
            fits(one, "1>2", 1);
            fits(one, "1>0", a == 0 ? 1 : 0);
            fits(one, "1>1", a == 1 ? 1 : 0);
        }
    }

    @Sentence("and a ROW from x to y gets none, if x and y have the same value")
    static void rowGetsNone() {
        for (int v = 0; v <= 9; v++) {
            fits(new Given().values(v, v), "1~2 2~1 1~1 0~0", 1);
            fits(new Given().values(v), "1~0", v == 0 ? 1 : 0);
            fits(new Given().values(v), "0~1", v == 0 ? 1 : 0);
        }
        // A cell that holds its own address is in no ROW from there to there.
        fits(Given.cells(1).values(1, 1), "1~2", 0);
        fits(Given.cells(1).values(1, 1), "1~1", 0);
        fits(Given.cells(1).values(1, 1), "1~1 1>1", 1);
        fits(Given.cells(2, 1).values(1, 1), "1~2", 0);
    }

    @Sentence("else cells c1, .., cn (n 1 or more)")
    static void rowsOfOneToNine() {
        fits(new Given().values(1, 2), "1~2", 0);
        fits(new Given().values(9), "1~0", 0);
        for (int n = 1; n <= 9; n++) {
            Given given = new Given().values(10 - n);
            for (int i = 10 - n; i <= 9; i++) {
                int address = i, next = i == 9 ? 0 : i + 1;
                given.then(h -> h.cell(address, next));
            }
            fits(given, "1~0", 1);
            fits(given, "1~2", 1);
            fits(given, "1>0", n == 1 ? 1 : 0);
            Given longer = given.copy().then(h -> h.set(1, 9));
            fits(longer, "1~0", n == 1 ? 1 : 0);
        }
        // The ninth cell's end may be an address where there is none no more than NIL.
        fits(Given.cells(2, 3, 4, 5, 6, 7, 8, 9).values(1, 9), "1~2", 1);
        fits(Given.cells(2, 3, 4, 5, 6, 7, 8, 9).values(1, 8), "1~2", 0);
    }

    @Sentence("c1 is at x's value, each holds the address of the next one, the last one holds y's value")
    static void rowFollowsCells() {
        Given chain = Given.cells(3, -1, 2).values(1, 2, 3);
        fits(chain, "1~2", 1);
        fits(chain, "3~2", 0);
        fits(chain, "1~3 3~2", 1);
        fits(chain, "1>3 3>2", 1);
        fits(chain, "1~0", 0);
        fits(chain, "2~1", 0);
        fits(chain, "1~4", 0);
    }

    @Sentence("and none of them is at y's value.")
    static void rowEndsAtItsEnd() {
        // 1 to 2 to 3 and back to 2: a ROW from 1 to 2 is the first cell alone.
        Given back = Given.cells(2, 3, 2).values(1, 2, 3, 9);
        fits(back, "1~2", 0);
        fits(back, "1~2 2>3 3>2", 1);
        fits(back, "1~2 2~3 3~2", 1);
        fits(back, "1~3 3>2", 1);
        fits(back, "1~3", 0);
        fits(back, "1~4", 0);
        fits(back, "1~0", 0);
        Given ring = Given.cells(2, 3, 4, 5, 6, 7, 8, 9, 1).values(1, 9, 1);
        fits(ring, "1~3", 0);
        fits(ring, "1~2", 0);
        fits(ring, "1~2 2>1", 1);
        fits(ring, "1~2 2~1", 1);
        fits(ring, "2>1 1~2", 1);
        fits(ring, "1~0", 0);
    }

    @Sentence("A formula FITS a memory if it does for some values 0 .. 9 of the SPARE names in it")
    static void spareValues() {
        for (int s = 5; s <= 7; s++) {
            for (int a = 0; a <= 9; a++) {
                int at = a, other = s == 7 ? 5 : s + 1;
                fits(Given.cells(a).values(1), "1>" + s, 1);
                fits(new Given().values(a), "1=" + s, 1);
                if (a > 0) {
                    Given one = new Given().then(h -> h.cell(at, 10 - at));
                    fits(one, s + ">" + other, 1);
                    // At 5 it holds its own address, and is in no ROW.
                    fits(one, s + "~" + other, a == 5 ? 0 : 1);
                    fits(one, s + ">" + s, a == 5 ? 1 : 0);
                }
            }
            fits(new Given().values(1, 2, 3, 4), s + "!0 " + s + "!1 " + s + "!2 " + s + "!3 " + s + "!4", 1);
            fits(new Given(), s + "!" + s, 0);
            fits(new Given(), s + ">0", 0);
        }
        fits(new Given().values(1, 2, 3, 4), "5!6 5!7 6!7 5!0 5!1 5!2 5!3 5!4 6!0 6!1 6!2 6!3 6!4 7!0 7!1 7!2", 1);
        fits(new Given(), "5=6 6=7", 1);
        fits(Given.cells(1, 2, 3), "5>5 6>6 7>7", 1);
        fits(Given.cells(-1, -1, -1, -1, -1, -1, 7, 8, 9), "5>5 6>6 7>7", 1);
        fits(Given.cells(-1, -1, -1, -1, -1, -1, 7, 8, 9), "5>5 6>6 7>7 5=6", 0);
        fits(Given.cells(1, 2, 3, 4), "5>5 6>6 7>7", 0);
        fits(Given.cells(9, -1, -1, -1, -1, -1, -1, -1, 0).values(1, 9), "5>6 6>7", 1);
    }

    @Sentence("the others having the memory's.")
    static void namesKeepTheirValues() {
        for (int name = 1; name <= 4; name++) {
            int of = name;
            Given given = Given.cells(0).then(h -> h.set(of, 1));
            for (int other = 1; other <= 4; other++) {
                fits(given, other + ">0", other == name ? 1 : 0);
                fits(given, other + ">5", other == name ? 1 : 0);
            }
        }
        // Nor does asking change them.
        Given given = full().formula("5!6 5!7 6!7 1~0").formula("7>7");
        changesNothing(given, 1, h -> h.fits(0));
        changesNothing(given, 0, h -> h.fits(1));
    }

    // ---- promise 9

    @Sentence("A name's (1 .. 4) VALUE becomes a: what it was. BAD.")
    static void p09set() {
        for (int n = 1; n <= 4; n++) {
            int name = n;
            answers(full(), new int[] {1, 9, 0, 5}[n - 1], h -> h.set(name, 0), h -> h.set(name, 9), h -> h.set(name, 5));
            due("first and last address", full().led(h -> h.set(name, 0)).set(name, 9), 0);
            due("first and last address", full().led(h -> h.set(name, 9)).set(name, 0), 9);
            due("value", full().led(h -> h.set(name, 9)).value(name), 9);
            changesNothing(full(), HeapLaw.BAD, h -> h.set(name, -1), h -> h.set(name, 10), h -> h.set(name, 11));
            for (int w : WILD) {
                changesNothing(full(), HeapLaw.BAD, h -> h.set(name, w));
            }
        }
        for (int n : NO_NAMES) {
            changesNothing(full(), HeapLaw.BAD, h -> h.set(n, 0), h -> h.set(n, 9), h -> h.set(n, 10));
        }
        due("cells stay", full().led(h -> h.set(1, 7)).held(), 9);
    }

    // ---- promise 10

    @Sentence("The cell at an address 1 .. 9 holds a from now (0 .. 9), or is not there (-1): what it held, -1.")
    static void p10cell() {
        for (int i = 1; i <= 9; i++) {
            int address = i;
            answers(new Given(), -1, h -> h.cell(address, 0), h -> h.cell(address, 9), h -> h.cell(address, -1));
            answers(full(), i == 9 ? 0 : i + 1, h -> h.cell(address, 0), h -> h.cell(address, 9), h -> h.cell(address, -1));
            HeapLaw h = full().led(g -> g.cell(address, -1));
            due("gone", h.holds(i), -1);
            due("one less", h.held(), 8);
            due("what it held", h.cell(i, 9), -1);
            due("what it held", h.cell(i, 0), 9);
            due("what it held", h.cell(i, -1), 0);
            due("it may be gone twice", h.cell(i, -1), -1);
            due("still one less", h.held(), 8);
            due("values stay", h.value(2), 9);
        }
    }

    @Sentence("BAD (it may be -1, too).")
    static void p10bad() {
        for (int i : new int[] {0, 10, -1, 11}) {
            changesNothing(full(), HeapLaw.BAD, h -> h.cell(i, 0), h -> h.cell(i, 9), h -> h.cell(i, -1));
            changesNothing(new Given(), HeapLaw.BAD, h -> h.cell(i, 0), h -> h.cell(i, 9), h -> h.cell(i, -1));
        }
        for (int i = 1; i <= 9; i++) {
            int address = i;
            changesNothing(full(), HeapLaw.BAD, h -> h.cell(address, -2), h -> h.cell(address, 10));
            changesNothing(new Given(), HeapLaw.BAD, h -> h.cell(address, -2), h -> h.cell(address, 10));
        }
        for (int w : WILD) {
            changesNothing(full(), HeapLaw.BAD, h -> h.cell(w, 0), h -> h.cell(1, w));
        }
    }

    // ---- promise 11

    @Sentence("A name's VALUE. BAD.")
    static void p11value() {
        Given given = new Given().values(9, 0, 1, 8);
        changesNothing(given, 9, h -> h.value(1));
        changesNothing(given, 0, h -> h.value(2));
        changesNothing(given, 1, h -> h.value(3));
        changesNothing(given, 8, h -> h.value(4));
        for (int n : NO_NAMES) {
            changesNothing(given, HeapLaw.BAD, h -> h.value(n));
        }
        for (int w : WILD) {
            changesNothing(given, HeapLaw.BAD, h -> h.value(w));
        }
    }

    // ---- promise 12

    @Sentence("What the cell at an address holds; -1: there is none (or no such address).")
    static void p12holds() {
        Given given = Given.cells(0, -1, 9, -1, 5, -1, 1, -1, 9);
        int[] want = {-1, 0, -1, 9, -1, 5, -1, 1, -1, 9, -1};
        for (int i = 0; i <= 10; i++) {
            int address = i;
            changesNothing(given, want[i], h -> h.holds(address));
        }
        changesNothing(full(), -1, h -> h.holds(0), h -> h.holds(10), h -> h.holds(-1), h -> h.holds(11));
        for (int w : WILD) {
            changesNothing(full(), -1, h -> h.holds(w));
        }
    }

    // ---- promise 13

    @Sentence("How many cells there are.")
    static void p13held() {
        HeapLaw h = new HeapLaw();
        due("none", h.held(), 0);
        for (int i = 1; i <= 9; i++) {
            h.cell(10 - i, 0);
            due("more", h.held(), i);
            h.cell(10 - i, 9);
            due("another address held", h.held(), i);
        }
        h.set(1, 3);
        due("all", h.held(), 9);
        for (int i = 1; i <= 9; i++) {
            h.cell(i, -1);
            due("less", h.held(), 9 - i);
            h.cell(i, -1);
            due("gone already", h.held(), 9 - i);
        }
        due("made and let go by acts", full().led(g -> g.run(3, 1, 0, 0)).held(), 8);
        due("made and let go by acts", full().led(g -> g.run(3, 1, 0, 0), g -> g.run(2, 1, 0, 0)).held(), 9);
    }

    // ---- promise 14

    @Sentence("1 if a formula FITS the MEMORY, else 0. BAD.")
    static void p14fits() {
        Given given = full().formula("1~0").formula("").upTo(59).formula("1~2 2>0");
        changesNothing(given, 1, h -> h.fits(0), h -> h.fits(59));
        changesNothing(given, 0, h -> h.fits(1));
        changesNothing(given, HeapLaw.BAD, h -> h.fits(-1), h -> h.fits(60));
        Given few = new Given().formula("").formula("1!1");
        changesNothing(few, 1, h -> h.fits(0));
        changesNothing(few, 0, h -> h.fits(1));
        changesNothing(few, HeapLaw.BAD, h -> h.fits(2), h -> h.fits(59), h -> h.fits(-1));
        for (int w : WILD) {
            changesNothing(few, HeapLaw.BAD, h -> h.fits(w));
        }
    }

    // ---- promise 15

    private static void runs(Given given, Given.Call run, Given.Call... same) {
        due("run", run.on(given.led()), 1);
        due("what is behind it", given.look(run), given.look(same));
    }

    @Sentence("0 x becomes y; 1 x becomes NIL;")
    static void p15become() {
        for (int i = 1; i <= 4; i++) {
            for (int j = 1; j <= 4; j++) {
                int x = i, y = j, value = new int[] {1, 9, 0, 5}[j - 1];
                runs(full(), h -> h.run(0, x, y, 0), h -> h.set(x, value));
            }
            int x = i;
            runs(full(), h -> h.run(1, x, 1, 0), h -> h.set(x, 0));
        }
    }

    @Sentence("In 2 the new cell has the least free address and holds a (0 .. 9)")
    static void p15newCell() {
        for (int gone = 1; gone <= 9; gone++) {
            int address = gone;
            Given given = full().then(h -> h.cell(address, -1));
            for (int n = 1; n <= 4; n++) {
                int x = n;
                runs(given, h -> h.run(2, x, 1, 0), h -> h.cell(address, 0), h -> h.set(x, address));
                runs(given, h -> h.run(2, x, 1, 9), h -> h.cell(address, 9), h -> h.set(x, address));
            }
            if (gone > 1) {
                runs(given.copy().then(h -> h.cell(1, -1)), h -> h.run(2, 1, 1, 9), h -> h.cell(1, 9), h -> h.set(1, 1));
            }
            changesNothing(given, HeapLaw.BAD, h -> h.run(2, 1, 1, -1), h -> h.run(2, 1, 1, 10));
        }
        runs(new Given(), h -> h.run(2, 4, 1, 7), h -> h.cell(1, 7), h -> h.set(4, 1));
        // The value that x had does not count.
        runs(new Given().values(1), h -> h.run(2, 1, 1, 0), h -> h.cell(1, 0));
    }

    @Sentence("MANY: none is free.")
    static void p15many() {
        changesNothing(full(), HeapLaw.MANY, h -> h.run(2, 1, 1, 0), h -> h.run(2, 4, 1, 9));
        changesNothing(full(), HeapLaw.BAD, h -> h.run(2, 0, 1, 0), h -> h.run(2, 5, 1, 0), h -> h.run(2, 1, 1, -1),
            h -> h.run(2, 1, 1, 10));
        Given eight = Given.cells(1, 1, 1, 1, 1, 1, 1, 1);
        answers(eight, 1, h -> h.run(2, 1, 1, 0));
        due("then none is free", eight.led(h -> h.run(2, 1, 1, 0)).run(2, 1, 1, 0), HeapLaw.MANY);
        HeapLaw h = new HeapLaw();
        for (int i = 1; i <= 9; i++) {
            due("new", h.run(2, 1, 1, 0), 1);
            due("value", h.value(1), i);
        }
        due("the tenth", h.run(2, 1, 1, 0), HeapLaw.MANY);
    }

    @Sentence("3, 4, 5 FAULT if there is no such cell.")
    static void p15fault() {
        for (int v = 0; v <= 9; v++) {
            int at = v;
            Given gone = full().values(at, at == 9 ? 8 : 9, at, at);
            if (at > 0) {
                gone.then(h -> h.cell(at, -1));
            }
            // Name 2 is at a cell; the cell needed is at x in 3 and 5, at y in 4.
            changesNothing(gone, HeapLaw.FAULT, h -> h.run(3, 1, 2, 0), h -> h.run(3, 4, 2, 0), h -> h.run(4, 2, 1, 0),
                h -> h.run(4, 2, 4, 0), h -> h.run(4, 1, 1, 0), h -> h.run(5, 1, 2, 0), h -> h.run(5, 4, 2, 0),
                h -> h.run(5, 1, 1, 0));
            answers(gone, 1, h -> h.run(3, 2, 1, 0), h -> h.run(4, 1, 2, 0), h -> h.run(5, 2, 1, 0), h -> h.run(5, 2, 2, 0));
        }
    }

    @Sentence("3 the cell at x is let go; 4 x becomes what the cell at y holds; 5 the cell at x holds y from now;")
    static void p15cells() {
        for (int v = 1; v <= 9; v++) {
            int at = v, next = v == 9 ? 0 : v + 1;
            Given given = full().values(at, 9, 0, 5);
            runs(given, h -> h.run(3, 1, 1, 0), h -> h.cell(at, -1));
            runs(given, h -> h.run(4, 4, 1, 0), h -> h.set(4, next));
            runs(given, h -> h.run(4, 1, 1, 0), h -> h.set(1, next));
            runs(given, h -> h.run(5, 1, 1, 0), h -> h.cell(at, at));
            runs(given, h -> h.run(5, 1, 2, 0), h -> h.cell(at, 9));
            runs(given, h -> h.run(5, 1, 3, 0), h -> h.cell(at, 0));
            due("let go twice", given.led(h -> h.run(3, 1, 1, 0)).run(3, 1, 1, 0), HeapLaw.FAULT);
        }
    }

    @Sentence("An act is run: 1; 0: it was asked, and is not so (6, 7).")
    static void p15asked() {
        for (int v = 0; v <= 9; v++) {
            for (int w = 0; w <= 9; w++) {
                Given given = full().values(v, 0, 9, w);
                changesNothing(given, v == w ? 1 : 0, h -> h.run(6, 1, 4, 0), h -> h.run(6, 4, 1, 0));
                changesNothing(given, v == w ? 0 : 1, h -> h.run(7, 1, 4, 0), h -> h.run(7, 4, 1, 0));
            }
            changesNothing(full().values(v), 1, h -> h.run(6, 1, 1, 0));
            changesNothing(full().values(v), 0, h -> h.run(7, 1, 1, 0));
        }
    }

    @Sentence("BAD: no such act, names (y counts in 0, 4, 5, 6, 7; a in 2).")
    static void p15bad() {
        // The cells at x and y are there, so that nothing else could be answered.
        Given given = full().then(h -> h.cell(3, -1)).values(1, 2, 4, 9);
        changesNothing(given, HeapLaw.BAD, h -> h.run(-1, 1, 1, 0), h -> h.run(8, 1, 1, 0), h -> h.run(9, 1, 1, 0));
        for (int i = 0; i < 8; i++) {
            int act = i;
            for (int n : NO_NAMES) {
                changesNothing(given, HeapLaw.BAD, h -> h.run(act, n, 1, 0), h -> h.run(act, n, n, 0));
                if (act == 0 || act >= 4) {
                    changesNothing(given, HeapLaw.BAD, h -> h.run(act, 1, n, 0), h -> h.run(act, 4, n, 0));
                }
            }
            for (int x = 1; x <= 4; x++) {
                int name = x;
                int same = i == 7 ? 0 : 1;
                answers(given, same, h -> h.run(act, name, name, 0));
            }
        }
        for (int w : WILD) {
            changesNothing(given, HeapLaw.BAD, h -> h.run(w, 1, 1, 0), h -> h.run(0, w, 1, 0), h -> h.run(0, 1, w, 0),
                h -> h.run(2, 1, 1, w));
        }
    }

    @Sentence("BAD: no such act, names (y counts in 0, 4, 5, 6, 7; a in 2).")
    static void p15whatDoesNotCount() {
        Given given = full().then(h -> h.cell(3, -1)).values(1, 2, 4, 9);
        for (int n : new int[] {-2, -1, 0, 1, 4, 5, 9, 10, Integer.MIN_VALUE, Integer.MAX_VALUE}) {
            runs(given, h -> h.run(1, 1, n, n), h -> h.set(1, 0));
            runs(given, h -> h.run(2, 1, n, 6), h -> h.set(1, 3), h -> h.cell(3, 6));
            runs(given, h -> h.run(3, 1, n, n), h -> h.cell(1, -1));
            runs(given, h -> h.run(0, 1, 4, n), h -> h.set(1, 9));
            runs(given, h -> h.run(4, 1, 4, n), h -> h.set(1, 0));
            runs(given, h -> h.run(5, 1, 4, n), h -> h.cell(1, 9));
            changesNothing(given, 0, h -> h.run(6, 1, 4, n));
            changesNothing(given, 1, h -> h.run(7, 1, 4, n));
        }
    }

    @Sentence("Answers, of several the one named first: BAD (-1)")
    static void badAheadOfFault() {
        Given none = new Given();
        changesNothing(none, HeapLaw.FAULT, h -> h.run(3, 1, 0, 0), h -> h.run(4, 1, 1, 0), h -> h.run(5, 1, 1, 0));
        for (int n : NO_NAMES) {
            changesNothing(none, HeapLaw.BAD, h -> h.run(3, n, 1, 0), h -> h.run(4, n, 1, 0), h -> h.run(4, 1, n, 0),
                h -> h.run(5, n, 1, 0), h -> h.run(5, 1, n, 0));
        }
    }
}
