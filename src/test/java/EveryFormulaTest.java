import java.util.ArrayList;
import java.util.List;
import java.util.function.Supplier;

/**
 * Every formula of at most two PARTS and one PURE part over few terms, not chance ones: which
 * small memories it fits (the cells dealt out to the PARTS in every way), whether it is fit, which
 * ones without a PURE part it says, and what steps make of it; and, for those without a PURE part,
 * what parts one from another.
 */
public final class EveryFormulaTest {
    private static final int[] NAMED = {0, 1, 2};
    private static final int[] WITH_SPARE = {0, 1, 2, 5};
    private static final int[] THREE_NAMES = {0, 1, 2, 3};
    private static final int SMALL_MEMORIES = 125 * 16;
    private static final int GROUP = 20;

    private static int wrong = 0;
    private static long asked = 0;

    public static void main(String[] args) {
        List<Plain.Formula> named = all(NAMED, true, 2);
        List<Plain.Formula> bare = all(NAMED, false, 2);
        fitting(named);
        parting(bare);
        saying(named, bare);
        saying(all(new int[] {0, 1, 5}, true, 2), bare);
        saying(apart(THREE_NAMES), all(THREE_NAMES, false, 2));
        stepping(all(WITH_SPARE, true, 2));
        System.out.println(wrong == 0 ? "all " + asked + " answers are as due" : wrong + " answers are not as due");
        if (wrong != 0) {
            System.exit(1);
        }
    }

    /** The text is made only where it is told: there are millions of answers. */
    private static void due(Supplier<String> what, int got, int want) {
        asked++;
        if (got != want) {
            wrong++;
            System.out.println(what.get() + " answered " + got + ", due is " + want);
        }
        if (wrong > 20) {
            System.exit(1);
        }
    }

    // ---- formulas

    private static List<Plain.Formula> all(int[] terms, boolean withPure, int mostParts) {
        List<int[]> codes = new ArrayList<>();
        for (int how = 0; how < 2; how++) {
            for (int x : terms) {
                for (int y : terms) {
                    codes.add(new int[] {how, x, y});
                }
            }
        }
        List<Plain.Formula> found = new ArrayList<>();
        addAll(codes, mostParts, new Plain.Formula(), found);
        for (int i = 0, bare = found.size(); i < bare && withPure; i++) {
            for (int[] code : codes) {
                Plain.Formula more = found.get(i).copy();
                more.pures.add(code.clone());
                found.add(more);
            }
        }
        return found;
    }

    /** All terms OTHER than one another: only then does it count where an end may lie inside of a ROW. */
    private static List<Plain.Formula> apart(int[] terms) {
        List<Plain.Formula> found = all(terms, false, 2);
        for (Plain.Formula one : found) {
            for (int x : terms) {
                for (int y : terms) {
                    if (x < y) {
                        one.pures.add(new int[] {1, x, y});
                    }
                }
            }
        }
        return found;
    }

    private static void addAll(List<int[]> codes, int parts, Plain.Formula one, List<Plain.Formula> found) {
        found.add(one);
        for (int i = 0; i < codes.size() && parts > 0; i++) {
            Plain.Formula more = one.copy();
            more.parts.add(codes.get(i).clone());
            addAll(codes, parts - 1, more, found);
        }
    }

    private static int make(HeapLaw law, Plain.Formula one) {
        int f = law.formula();
        for (int[] p : one.pures) {
            law.pure(f, p[0], p[1], p[2]);
        }
        for (int[] p : one.parts) {
            law.part(f, p[0], p[1], p[2]);
        }
        return f;
    }

    private static String text(Plain.Formula one) {
        StringBuilder out = new StringBuilder("[");
        for (int[] p : one.pures) {
            out.append(p[1]).append(p[0] == 0 ? "=" : "!").append(p[2]).append(' ');
        }
        for (int[] p : one.parts) {
            out.append(p[0] == 0 ? "CELL " : "ROW ").append(p[1]).append(' ').append(p[2]).append(' ');
        }
        return out.toString().trim() + "]";
    }

    // ---- small memories, in the order of promise 19, names 3 and 4 left NIL

    private static int[] cellsOf(int memory) {
        int heap = memory / 16;
        return new int[] {-1, heap / 25 - 1, heap / 5 % 5 - 1, heap % 5 - 1};
    }

    private static int[] valuesOf(int memory) {
        return new int[] {0, memory / 4 % 4, memory % 4};
    }

    /** Each cell goes to one of the PARTS, in every way there is. */
    private static boolean fits(Plain.Formula f, int memory) {
        int[] v = valuesOf(memory);
        int[] cells = cellsOf(memory);
        for (int[] p : f.pures) {
            if ((p[0] == 0) != (v[p[1]] == v[p[2]])) {
                return false;
            }
        }
        return dealtFrom(f, v, cells, 1, new int[f.parts.size()]);
    }

    private static boolean dealtFrom(Plain.Formula f, int[] v, int[] cells, int address, int[] got) {
        if (address == cells.length) {
            for (int i = 0; i < got.length; i++) {
                int[] p = f.parts.get(i);
                if (!(p[0] == 0 ? isCell(v[p[1]], v[p[2]], cells, got[i]) : isRow(v[p[1]], v[p[2]], cells, got[i]))) {
                    return false;
                }
            }
            return true;
        }
        if (cells[address] < 0) {
            return dealtFrom(f, v, cells, address + 1, got);
        }
        for (int i = 0; i < got.length; i++) {
            got[i] |= 1 << address;
            boolean so = dealtFrom(f, v, cells, address + 1, got);
            got[i] &= ~(1 << address);
            if (so) {
                return true;
            }
        }
        return false;
    }

    private static boolean isCell(int x, int y, int[] cells, int got) {
        return x > 0 && got == 1 << x && cells[x] == y;
    }

    private static boolean isRow(int x, int y, int[] cells, int got) {
        return x == y ? got == 0 : got != 0 && inARow(x, y, cells, got);
    }

    /** Whether cells, one or more, can be put in a row from x to y with none of them at y. */
    private static boolean inARow(int x, int y, int[] cells, int got) {
        if ((got >> x & 1) == 0 || x == y) {
            return false;
        }
        int rest = got & ~(1 << x);
        return rest == 0 ? cells[x] == y : inARow(cells[x], y, cells, rest);
    }

    // ---- what is asked

    private static void fitting(List<Plain.Formula> all) {
        for (int from = 0; from < all.size(); from += GROUP) {
            List<Plain.Formula> group = all.subList(from, Math.min(from + GROUP, all.size()));
            HeapLaw law = null;
            for (int memory = 0; memory < SMALL_MEMORIES; memory++) {
                if (memory % 10 == 0) {
                    law = new HeapLaw();
                    for (Plain.Formula one : group) {
                        make(law, one);
                    }
                }
                int[] cells = cellsOf(memory);
                for (int a = 1; a <= 3; a++) {
                    law.cell(a, cells[a]);
                }
                law.set(1, valuesOf(memory)[1]);
                law.set(2, valuesOf(memory)[2]);
                for (int f = 0; f < group.size(); f++) {
                    Plain.Formula one = group.get(f);
                    int at = memory;
                    due(() -> "fits " + text(one) + ", memory " + at, law.fits(f), fits(one, memory) ? 1 : 0);
                }
            }
        }
    }

    private static void parting(List<Plain.Formula> all) {
        List<boolean[]> fitted = new ArrayList<>();
        for (Plain.Formula one : all) {
            boolean[] row = new boolean[SMALL_MEMORIES];
            for (int memory = 0; memory < SMALL_MEMORIES; memory++) {
                row[memory] = fits(one, memory);
            }
            fitted.add(row);
        }
        for (int f = 0; f < all.size(); f++) {
            HeapLaw law = null;
            for (int g = 0; g < all.size(); g++) {
                if (law == null || law.count(1) == 20) {
                    law = new HeapLaw();
                    make(law, all.get(f));
                }
                int first = 0;
                while (first < SMALL_MEMORIES && !(fitted.get(f)[first] && !fitted.get(g)[first])) {
                    first++;
                }
                String what = "differ " + text(all.get(f)) + " " + text(all.get(g));
                due(() -> what, law.differ(0, make(law, all.get(g))), first < SMALL_MEMORIES ? 1 : 0);
                if (first < SMALL_MEMORIES) {
                    due(() -> what + ", memory", memoryOf(law), first);
                }
            }
        }
    }

    private static int memoryOf(HeapLaw law) {
        int heap = 25 * (law.holds(1) + 1) + 5 * (law.holds(2) + 1) + law.holds(3) + 1;
        return 16 * heap + 4 * law.value(1) + law.value(2);
    }

    private static void saying(List<Plain.Formula> all, List<Plain.Formula> others) {
        for (Plain.Formula f : all) {
            HeapLaw law = new HeapLaw();
            boolean isFit = Plain.isFit(f);
            due(() -> "is " + text(f), law.is(make(law, f)), isFit ? 1 : 0);
            for (int i = 0; i < others.size() && isFit; i++) {
                if (law.count(0) == 60) {
                    law = new HeapLaw();
                    make(law, f);
                }
                Plain.Formula g = others.get(i);
                boolean parted = new Plain.Models(f, g, 3).values(1, 0);
                due(() -> "says " + text(f) + " " + text(g), law.says(0, make(law, g)), parted ? 0 : 1);
            }
        }
    }

    private static void stepping(List<Plain.Formula> all) {
        for (Plain.Formula f : all) {
            for (int act = 0; act < 8; act++) {
                for (int names = 0; names < 4; names++) {
                    stepOne(f, act, 1 + names / 2, 1 + names % 2);
                }
            }
        }
    }

    private static void stepOne(Plain.Formula f, int act, int x, int y) {
        HeapLaw law = new HeapLaw();
        Plain plain = new Plain();
        make(law, f);
        plain.formulas.add(f.copy());
        Supplier<String> what = () -> "step " + text(f) + " by " + act + " " + x + " " + y;
        due(what, law.step(0, act, x, y), plain.step(0, act, x, y));
        due(() -> what.get() + ", formulas", law.count(0), plain.count(0));
        for (int g = 0; g < plain.count(0); g++) {
            for (int which = 0; which < 2; which++) {
                due(() -> what.get() + ", size", law.size(g, which), plain.size(g, which));
                for (int i = 0; i < 3 * plain.size(g, which); i++) {
                    due(() -> what.get() + ", told", law.told(g, which, i / 3, i % 3), plain.told(g, which, i / 3, i % 3));
                }
            }
        }
    }
}
