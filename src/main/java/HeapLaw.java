/**
 * Formulas over heaps whose parts share no cell: judged against one memory, against each
 * other over all memories, and stepped by acts. See README.md.
 */
public final class HeapLaw {
    public static final int BAD = -1, FULL = -2, MANY = -3, SPENT = -4, FAULT = -5;

    private static final int MOST_FORMULAS = 60;
    private static final int MOST_PURES = 16;
    private static final int MOST_PARTS = 10;
    private static final int MOST_DIFFERS = 40;

    private static final int NIL = 0;
    private static final int LAST_NAME = 4;
    private static final int FIRST_SPARE = 5;
    private static final int LAST_TERM = 7;
    private static final int TERMS = 8;
    private static final int SPARES = 0xE0;

    private static final int LAST_ADDRESS = 9;
    private static final int LAST_SMALL = 3;
    private static final int NO_CELL = -1;
    // Three cells, each of them missing or holding one of four addresses.
    private static final int SMALL_HEAPS = 125;

    // The kinds of a packed part: a PURE part has kind how, a PART kind CELL + how.
    private static final int EQUAL = 0;
    private static final int OTHER = 1;
    private static final int CELL = 2;
    private static final int ROW = 3;

    private static final int BECOME = 0;
    private static final int BECOME_NIL = 1;
    private static final int BECOME_NEW = 2;
    private static final int LET_GO = 3;
    private static final int READ = 4;
    private static final int WRITE = 5;
    private static final int ASK_SAME = 6;
    private static final int ASK_OTHER = 7;

    // Stands for a set of cells that cannot be had; sets themselves are never negative.
    private static final int NO = -1;

    // Each opening takes a ROW away, so this many CASES can be open at once, or come of a step.
    private static final int MOST_CASES = MOST_PARTS + 2;

    // Behind the formulas there is room for what a step makes before it is known to stand.
    private final Formula[] formulas = new Formula[MOST_FORMULAS + MOST_CASES];
    private final Memory memory = new Memory();
    private final Plan plan = new Plan();
    private final Sharing sharing = new Sharing();
    private final Stepper stepper = new Stepper();
    private final Parting parting = new Parting();
    private int made;
    private int differed;

    public HeapLaw() {
        for (int i = 0; i < formulas.length; i++) {
            formulas[i] = new Formula();
        }
    }

    // ---- formulas

    public int formula() {
        if (made >= MOST_FORMULAS) {
            return FULL;
        }
        formulas[made].clear();
        made++;
        return made - 1;
    }

    public int pure(int f, int how, int x, int y) {
        if (!isFormula(f) || !isHow(how) || !isTerm(x) || !isTerm(y)) {
            return BAD;
        }
        return formulas[f].addPure(pack(EQUAL + how, x, y)) ? formulas[f].pureCount : FULL;
    }

    public int part(int f, int how, int x, int y) {
        if (!isFormula(f) || !isHow(how) || !isTerm(x) || !isTerm(y)) {
            return BAD;
        }
        return formulas[f].addPart(pack(CELL + how, x, y)) ? formulas[f].partCount : FULL;
    }

    public int beside(int f, int g) {
        if (!isFormula(f) || !isFormula(g)) {
            return BAD;
        }
        if (made >= MOST_FORMULAS) {
            return FULL;
        }
        formulas[made].copyFrom(formulas[f]);
        if (!formulas[made].append(formulas[g])) {
            return FULL;
        }
        made++;
        return made - 1;
    }

    public int size(int f, int what) {
        if (!isFormula(f) || what < 0 || what > 1) {
            return BAD;
        }
        return what == 0 ? formulas[f].pureCount : formulas[f].partCount;
    }

    public int told(int f, int which, int i, int what) {
        if (!isFormula(f) || which < 0 || which > 1 || what < 0 || what > 2) {
            return BAD;
        }
        Formula it = formulas[f];
        if (i < 0 || i >= (which == 0 ? it.pureCount : it.partCount)) {
            return BAD;
        }
        int code = which == 0 ? it.pures[i] : it.parts[i];
        if (what == 0) {
            return kindOf(code) & 1;
        }
        return what == 1 ? xOf(code) : yOf(code);
    }

    public int drop() {
        if (made == 0) {
            return BAD;
        }
        made--;
        return made;
    }

    // ---- the memory

    public int set(int name, int a) {
        if (!isName(name) || !isAddress(a)) {
            return BAD;
        }
        int was = memory.values[name];
        memory.values[name] = a;
        return was;
    }

    public int cell(int address, int a) {
        if (!isCellAddress(address) || (a != NO_CELL && !isAddress(a))) {
            return BAD;
        }
        int was = memory.cells[address];
        memory.put(address, a);
        return was;
    }

    public int value(int name) {
        return isName(name) ? memory.values[name] : BAD;
    }

    public int holds(int address) {
        return isCellAddress(address) ? memory.cells[address] : NO_CELL;
    }

    public int held() {
        return Integer.bitCount(memory.present);
    }

    public int fits(int f) {
        if (!isFormula(f)) {
            return BAD;
        }
        plan.lay(formulas[f]);
        return memory.isFitted(plan) ? 1 : 0;
    }

    public int run(int act, int x, int y, int a) {
        if (!areNames(act, x, y)) {
            return BAD;
        }
        if (act == BECOME_NEW) {
            return isAddress(a) ? memory.makeCell(x, a) : BAD;
        }
        return memory.perform(act, x, y);
    }

    // ---- what formulas say

    public int is(int f) {
        if (!isFormula(f)) {
            return BAD;
        }
        return sharing.isFit(formulas[f]) ? 1 : 0;
    }

    public int says(int f, int g) {
        if (!isFormula(f) || !isFormula(g)) {
            return BAD;
        }
        if (formulas[g].hasSpare()) {
            return MANY;
        }
        return sharing.canPart(formulas[f], formulas[g]) ? 0 : 1;
    }

    public int step(int f, int act, int x, int y) {
        if (!isFormula(f) || !areNames(act, x, y)) {
            return BAD;
        }
        stepper.start(formulas[f], act, x, y);
        stepper.fillFrom(formulas, made);
        int ended = stepper.goThroughAll();
        if (ended < 0) {
            return ended;
        }
        int more = stepper.filled;
        if (made + more > MOST_FORMULAS) {
            return FULL;
        }
        made += more;
        return more;
    }

    public int differ(int f, int g) {
        if (!isFormula(f) || !isFormula(g)) {
            return BAD;
        }
        if (formulas[f].hasSpare() || formulas[g].hasSpare() || differed >= MOST_DIFFERS) {
            return MANY;
        }
        differed++;
        if (!parting.find(formulas[f], formulas[g])) {
            return 0;
        }
        memory.copyFrom(parting.trial);
        return 1;
    }

    public int count(int what) {
        if (what == 0) {
            return made;
        }
        return what == 1 ? differed : BAD;
    }

    // ---- what a call may name

    private boolean isFormula(int f) {
        return f >= 0 && f < made;
    }

    private static boolean isHow(int how) {
        return how == 0 || how == 1;
    }

    private static boolean isTerm(int t) {
        return t >= NIL && t <= LAST_TERM;
    }

    private static boolean isName(int name) {
        return name >= 1 && name <= LAST_NAME;
    }

    private static boolean isAddress(int a) {
        return a >= 0 && a <= LAST_ADDRESS;
    }

    private static boolean isCellAddress(int a) {
        return a >= 1 && a <= LAST_ADDRESS;
    }

    private static boolean isAct(int act) {
        return act >= BECOME && act <= ASK_OTHER;
    }

    private static boolean needsY(int act) {
        return act == BECOME || act >= READ;
    }

    /** Whether there is such an act and x, y are names where they count in it. */
    private static boolean areNames(int act, int x, int y) {
        return isAct(act) && isName(x) && (!needsY(act) || isName(y));
    }

    // ---- a part packed into one int

    private static int pack(int kind, int x, int y) {
        return kind << 6 | x << 3 | y;
    }

    private static int kindOf(int code) {
        return code >> 6 & 3;
    }

    private static int xOf(int code) {
        return code >> 3 & 7;
    }

    private static int yOf(int code) {
        return code & 7;
    }

    private static boolean has(int members, int one) {
        return (members >> one & 1) != 0;
    }

    /** The least SPARE name that is not one of some terms; NO if there is none. */
    private static int spareBeside(int terms) {
        for (int s = FIRST_SPARE; s <= LAST_TERM; s++) {
            if (!has(terms, s)) {
                return s;
            }
        }
        return NO;
    }

    /** PURE parts and PARTS in the order in which they came. */
    private static final class Formula {
        final int[] pures = new int[MOST_PURES];
        final int[] parts = new int[MOST_PARTS];
        int pureCount;
        int partCount;

        void clear() {
            pureCount = 0;
            partCount = 0;
        }

        void copyFrom(Formula other) {
            clear();
            append(other);
        }

        boolean append(Formula other) {
            if (pureCount + other.pureCount > MOST_PURES || partCount + other.partCount > MOST_PARTS) {
                return false;
            }
            System.arraycopy(other.pures, 0, pures, pureCount, other.pureCount);
            System.arraycopy(other.parts, 0, parts, partCount, other.partCount);
            pureCount += other.pureCount;
            partCount += other.partCount;
            return true;
        }

        boolean addPure(int code) {
            if (pureCount >= MOST_PURES) {
                return false;
            }
            pures[pureCount] = code;
            pureCount++;
            return true;
        }

        /** As a step puts it: one that stands there already is not put once more. */
        boolean putPure(int code) {
            for (int i = 0; i < pureCount; i++) {
                if (pures[i] == code) {
                    return true;
                }
            }
            return addPure(code);
        }

        boolean addPart(int code) {
            return insertPart(partCount, code);
        }

        boolean insertPart(int at, int code) {
            if (partCount >= MOST_PARTS || at < 0 || at > partCount) {
                return false;
            }
            for (int i = partCount; i > at; i--) {
                parts[i] = parts[i - 1];
            }
            parts[at] = code;
            partCount++;
            return true;
        }

        void removePart(int at) {
            if (at < 0 || at >= partCount) {
                return;
            }
            partCount--;
            for (int i = at; i < partCount; i++) {
                parts[i] = parts[i + 1];
            }
        }

        /** Whether its PARTS could get just so many cells: a CELL gets one, a ROW any number. */
        boolean canTake(int cells) {
            int fewest = 0;
            for (int i = 0; i < partCount; i++) {
                fewest += kindOf(parts[i]) == CELL ? 1 : 0;
            }
            return cells == fewest || (cells > fewest && fewest < partCount);
        }

        /** The set of the terms in it. */
        int terms() {
            int found = 0;
            for (int i = 0; i < pureCount; i++) {
                found |= 1 << xOf(pures[i]) | 1 << yOf(pures[i]);
            }
            for (int i = 0; i < partCount; i++) {
                found |= 1 << xOf(parts[i]) | 1 << yOf(parts[i]);
            }
            return found;
        }

        boolean hasSpare() {
            return (terms() & SPARES) != 0;
        }

        /** All places of one term in some parts become another one's. */
        static void rename(int[] codes, int count, int from, int to) {
            for (int i = 0; i < count && i < codes.length; i++) {
                int x = xOf(codes[i]);
                int y = yOf(codes[i]);
                codes[i] = pack(kindOf(codes[i]), x == from ? to : x, y == from ? to : y);
            }
        }

        /** The set of the terms that are KNOWN to be the same as t. */
        int known(int t) {
            int same = 1 << t;
            // A chain has at most TERMS - 1 links, and each round finds one link more.
            for (int round = 1; round < TERMS; round++) {
                for (int i = 0; i < pureCount; i++) {
                    int pair = 1 << xOf(pures[i]) | 1 << yOf(pures[i]);
                    if (kindOf(pures[i]) == EQUAL && (pair & same) != 0) {
                        same |= pair;
                    }
                }
            }
            return same;
        }

        /** The first PART of a kind whose x is one of some terms; NO if there is none. */
        int firstFrom(int kind, int starts) {
            for (int i = 0; i < partCount; i++) {
                if (kindOf(parts[i]) == kind && has(starts, xOf(parts[i]))) {
                    return i;
                }
            }
            return NO;
        }
    }

    /**
     * A formula's parts by the greater of their two terms, so that a search that gives values
     * to the terms in their order meets each part as soon as both its terms have one.
     */
    private static final class Plan {
        final int[] codes = new int[MOST_PURES + MOST_PARTS];
        final int[] starts = new int[TERMS + 1];
        int terms;

        void lay(Formula f) {
            terms = f.terms();
            int laid = 0;
            for (int level = 0; level < TERMS; level++) {
                starts[level] = laid;
                laid = gather(f.pures, f.pureCount, level, laid);
                laid = gather(f.parts, f.partCount, level, laid);
            }
            starts[TERMS] = laid;
        }

        private int gather(int[] from, int count, int level, int laid) {
            int next = laid;
            for (int i = 0; i < count && next < codes.length; i++) {
                if (Math.max(xOf(from[i]), yOf(from[i])) == level) {
                    codes[next] = from[i];
                    next++;
                }
            }
            return next;
        }
    }

    /** Cells and values; the places of the SPARE names serve the search for their values. */
    private static final class Memory {
        final int[] cells = new int[LAST_ADDRESS + 1];
        final int[] values = new int[TERMS];
        int present;

        Memory() {
            for (int i = 0; i < cells.length; i++) {
                cells[i] = NO_CELL;
            }
        }

        void copyFrom(Memory other) {
            System.arraycopy(other.cells, 0, cells, 0, cells.length);
            System.arraycopy(other.values, 0, values, 0, values.length);
            present = other.present;
        }

        void put(int address, int a) {
            cells[address] = a;
            present = a == NO_CELL ? present & ~(1 << address) : present | 1 << address;
        }

        int makeCell(int x, int a) {
            for (int address = 1; address <= LAST_ADDRESS; address++) {
                if (!has(present, address)) {
                    put(address, a);
                    values[x] = address;
                    return 1;
                }
            }
            return MANY;
        }

        int perform(int act, int x, int y) {
            if (act >= LET_GO && act <= WRITE && !has(present, values[act == READ ? y : x])) {
                return FAULT;
            }
            switch (act) {
                case BECOME:
                    values[x] = values[y];
                    return 1;
                case BECOME_NIL:
                    values[x] = NIL;
                    return 1;
                case LET_GO:
                    put(values[x], NO_CELL);
                    return 1;
                case READ:
                    values[x] = cells[values[y]];
                    return 1;
                case WRITE:
                    put(values[x], values[y]);
                    return 1;
                case ASK_SAME:
                    return values[x] == values[y] ? 1 : 0;
                default:
                    return values[x] != values[y] ? 1 : 0;
            }
        }

        /** Whether the formula laid out FITS. */
        boolean isFitted(Plan plan) {
            return suits(plan, NIL, 0);
        }

        /**
         * Whether the formula laid out FITS, from a term on, its parts of lesser terms having
         * taken some cells. Only a SPARE name in it has its values tried.
         */
        private boolean suits(Plan plan, int term, int taken) {
            if (term > LAST_TERM) {
                return taken == present;
            }
            if (term < FIRST_SPARE || !has(plan.terms, term)) {
                int now = deal(plan, term, taken);
                return now != NO && suits(plan, term + 1, now);
            }
            for (int a = 0; a <= LAST_ADDRESS; a++) {
                values[term] = a;
                int now = deal(plan, term, taken);
                if (now != NO && suits(plan, term + 1, now)) {
                    return true;
                }
            }
            return false;
        }

        /**
         * Which cells each PART gets follows from the values alone, so nothing is tried here:
         * the cells taken, with those of a level's PARTS; NO if one of its parts cannot be had.
         */
        int deal(Plan plan, int level, int taken) {
            int now = taken;
            for (int i = plan.starts[level]; i < plan.starts[level + 1] && now != NO; i++) {
                int code = plan.codes[i];
                now = dealOne(kindOf(code), values[xOf(code)], values[yOf(code)], now);
            }
            return now;
        }

        private int dealOne(int kind, int from, int to, int taken) {
            switch (kind) {
                case EQUAL:
                    return from == to ? taken : NO;
                case OTHER:
                    return from != to ? taken : NO;
                case CELL:
                    return has(present & ~taken, from) && cells[from] == to ? taken | 1 << from : NO;
                default:
                    return walk(from, to, taken);
            }
        }

        private int walk(int from, int to, int taken) {
            int now = taken;
            int at = from;
            for (int n = 0; n <= LAST_ADDRESS && at != to; n++) {
                int bit = 1 << at;
                if ((present & ~now & bit) == 0) {
                    return NO;
                }
                now |= bit;
                at = cells[at];
            }
            return at == to ? now : NO;
        }
    }

    /** Looks for the first small memory that FITS one formula and not another one. */
    private static final class Parting {
        final Memory trial = new Memory();
        private final Plan fitting = new Plan();
        private final Plan failing = new Plan();

        boolean find(Formula f, Formula g) {
            fitting.lay(f);
            failing.lay(g);
            for (int heap = 0; heap < SMALL_HEAPS; heap++) {
                trial.put(1, heap / 25 + NO_CELL);
                trial.put(2, heap / 5 % 5 + NO_CELL);
                trial.put(3, heap % 5 + NO_CELL);
                int taken = trial.deal(fitting, NIL, 0);
                if (taken != NO && f.canTake(Integer.bitCount(trial.present)) && findFrom(1, taken)) {
                    return true;
                }
            }
            return false;
        }

        private boolean findFrom(int name, int taken) {
            if (name > LAST_NAME) {
                return taken == trial.present && !trial.isFitted(failing);
            }
            // The value of a name that stands in neither makes no difference: 0 comes first.
            int most = has(fitting.terms | failing.terms, name) ? LAST_SMALL : 0;
            for (int a = 0; a <= most; a++) {
                trial.values[name] = a;
                int now = trial.deal(fitting, name, taken);
                if (now != NO && findFrom(name + 1, now)) {
                    return true;
                }
            }
            return false;
        }
    }

    /**
     * Goes through the ways in which terms may share their values (term t is of sort
     * sorts[t], NIL's sort is 0), which stand for all memories there are.
     *
     * Of the memories of one such way it is enough to look at the one in which each ROW that
     * is not empty is long: making ROWS longer never makes another formula fit that did not.
     * In it only one thing is left open: a value that is no cell of another part and not NIL
     * may be an inner cell of a ROW (not of a ROW that ends at it). That harms just a ROW of
     * the other formula that runs through this one and ends at that value farther on.
     */
    private static final class Sharing {
        private final int[] sorts = new int[TERMS];
        private final int[] goesTo = new int[TERMS];
        private final Plan plan = new Plan();
        private int longOnes;
        private int terms;
        private Formula other;

        boolean isFit(Formula f) {
            other = null;
            plan.lay(f);
            terms = plan.terms | 1 << NIL;
            return searchFrom(NIL, 0, 0);
        }

        /** Whether some memory and values FIT f and do not FIT g. */
        boolean canPart(Formula f, Formula g) {
            other = g;
            plan.lay(f);
            terms = plan.terms | g.terms() | 1 << NIL;
            return searchFrom(NIL, 0, 0);
        }

        private boolean searchFrom(int term, int sortCount, int begun) {
            if (term > LAST_TERM) {
                return other == null || !isCovered(begun);
            }
            if (!has(terms, term)) {
                return searchFrom(term + 1, sortCount, begun);
            }
            // A sort of its own first: it leads to a memory soonest.
            for (int sort = sortCount; sort >= 0; sort--) {
                sorts[term] = sort;
                int now = admit(term, begun);
                if (now != NO && searchFrom(term + 1, Math.max(sortCount, sort + 1), now)) {
                    return true;
                }
            }
            return false;
        }

        /** The sorts at which cells begin, with those of a level's PARTS; NO if it cannot be. */
        private int admit(int level, int begun) {
            int now = begun;
            for (int i = plan.starts[level]; i < plan.starts[level + 1] && now != NO; i++) {
                int code = plan.codes[i];
                now = admitOne(kindOf(code), sorts[xOf(code)], sorts[yOf(code)], now);
            }
            return now;
        }

        private int admitOne(int kind, int from, int to, int begun) {
            if (kind == EQUAL || kind == OTHER) {
                return (kind == EQUAL) == (from == to) ? begun : NO;
            }
            if (kind == ROW && from == to) {
                return begun;
            }
            if (from == 0 || has(begun, from)) {
                return NO;
            }
            goesTo[from] = to;
            longOnes = kind == ROW ? longOnes | 1 << from : longOnes & ~(1 << from);
            return begun | 1 << from;
        }

        private boolean isCovered(int begun) {
            for (int i = 0; i < other.pureCount; i++) {
                int code = other.pures[i];
                if ((kindOf(code) == EQUAL) != (sorts[xOf(code)] == sorts[yOf(code)])) {
                    return false;
                }
            }
            int left = begun;
            for (int i = 0; i < other.partCount && left != NO; i++) {
                int code = other.parts[i];
                int from = sorts[xOf(code)];
                int to = sorts[yOf(code)];
                left = kindOf(code) == CELL ? coverCell(from, to, left) : coverRow(from, to, left, begun);
            }
            return left == 0;
        }

        private int coverCell(int from, int to, int left) {
            boolean there = has(left & ~longOnes, from) && goesTo[from] == to;
            return there ? left & ~(1 << from) : NO;
        }

        private int coverRow(int from, int to, int left, int begun) {
            boolean mayBeInside = to != 0 && !has(begun, to);
            int now = left;
            int at = from;
            for (int n = 0; n < TERMS && at != to; n++) {
                if (!has(now, at)) {
                    return NO;
                }
                if (mayBeInside && has(longOnes, at) && goesTo[at] != to) {
                    return NO;
                }
                now &= ~(1 << at);
                at = goesTo[at];
            }
            return at == to ? now : NO;
        }
    }

    /** Steps a formula by an act, CASE by CASE. */
    private static final class Stepper {
        private final Formula[] cases = new Formula[MOST_CASES];
        private final Sharing sharing = new Sharing();
        private Formula[] slots;
        private int firstSlot;
        private int act;
        private int x;
        private int y;
        int filled;

        Stepper() {
            for (int i = 0; i < cases.length; i++) {
                cases[i] = new Formula();
            }
        }

        void start(Formula f, int act, int x, int y) {
            cases[0].copyFrom(f);
            this.act = act;
            this.x = x;
            this.y = y;
        }

        /** What comes of the step goes into the slots from one on. */
        void fillFrom(Formula[] slots, int firstSlot) {
            this.slots = slots;
            this.firstSlot = firstSlot;
            filled = 0;
        }

        /** Goes through the formula itself and all that is opened in it: 0, SPENT or FAULT. */
        int goThroughAll() {
            return goThrough(0);
        }

        private int goThrough(int depth) {
            Formula one = cases[depth];
            if (!sharing.isFit(one)) {
                return 0;
            }
            int used = NO;
            if (act >= LET_GO && act <= WRITE) {
                int same = one.known(act == READ ? y : x);
                used = one.firstFrom(CELL, same);
                if (used == NO) {
                    return open(one, one.firstFrom(ROW, same), depth + 1);
                }
            }
            int slot = firstSlot + filled;
            if (slots == null || slot >= slots.length) {
                return SPENT;
            }
            slots[slot].copyFrom(one);
            if (!change(slots[slot], used)) {
                return SPENT;
            }
            filled += sharing.isFit(slots[slot]) ? 1 : 0;
            return 0;
        }

        private int open(Formula one, int row, int depth) {
            if (row == NO) {
                return FAULT;
            }
            if (depth >= cases.length) {
                return SPENT;
            }
            Formula next = cases[depth];
            next.copyFrom(one);
            if (!makeEmpty(next, row)) {
                return SPENT;
            }
            int ended = goThrough(depth);
            if (ended < 0) {
                return ended;
            }
            next.copyFrom(one);
            return makeLonger(next, row) ? goThrough(depth) : SPENT;
        }

        private static boolean makeEmpty(Formula one, int row) {
            int code = one.parts[row];
            one.removePart(row);
            return one.putPure(pack(EQUAL, xOf(code), yOf(code)));
        }

        private static boolean makeLonger(Formula one, int row) {
            int code = one.parts[row];
            int spare = spareBeside(one.terms());
            if (spare == NO) {
                return false;
            }
            one.parts[row] = pack(CELL, xOf(code), spare);
            return one.insertPart(row + 1, pack(ROW, spare, yOf(code)))
                && one.putPure(pack(OTHER, xOf(code), yOf(code)));
        }

        /** Does the act, on the CELL used where it needs one; false: SPENT. */
        private boolean change(Formula it, int used) {
            switch (act) {
                case BECOME:
                    return x == y || become(it, y);
                case BECOME_NIL:
                    return become(it, NIL);
                case BECOME_NEW:
                    return becomeNew(it);
                case LET_GO:
                    it.removePart(used);
                    return true;
                case READ:
                    return become(it, yOf(it.parts[used]));
                case WRITE:
                    it.parts[used] = pack(CELL, xOf(it.parts[used]), y);
                    return true;
                case ASK_SAME:
                    return it.putPure(pack(EQUAL, x, y));
                default:
                    return it.putPure(pack(OTHER, x, y));
            }
        }

        private boolean become(Formula it, int v) {
            int stands = vacate(it);
            return stands != NO && it.putPure(pack(EQUAL, x, v == x ? stands : v));
        }

        private boolean becomeNew(Formula it) {
            if (vacate(it) == NO) {
                return false;
            }
            int spare = spareBeside(it.terms());
            return spare != NO && it.addPart(pack(CELL, x, spare));
        }

        /** Gives all places of x to a SPARE name: which; x if it has none; NO if none is free. */
        private int vacate(Formula it) {
            int found = it.terms();
            if (!has(found, x)) {
                return x;
            }
            int spare = spareBeside(found);
            if (spare != NO) {
                Formula.rename(it.pures, it.pureCount, x, spare);
                Formula.rename(it.parts, it.partCount, x, spare);
            }
            return spare;
        }
    }
}
