import java.util.ArrayList;
import java.util.Arrays;
import java.util.List;
import java.util.Random;

/**
 * A second and slow reading of the document: it deals out cells as sets, goes through memories
 * one by one, and steps lists. A part is {how, x, y}.
 */
final class Plain {
    static final int BAD = -1, FULL = -2, MANY = -3, SPENT = -4, FAULT = -5;
    static final int UNKNOWN = -99;

    static final class Formula {
        final List<int[]> pures = new ArrayList<>();
        final List<int[]> parts = new ArrayList<>();

        Formula copy() {
            Formula f = new Formula();
            for (int[] p : pures) {
                f.pures.add(p.clone());
            }
            for (int[] p : parts) {
                f.parts.add(p.clone());
            }
            return f;
        }

        boolean in(int t) {
            for (int[] p : pures) {
                if (p[1] == t || p[2] == t) {
                    return true;
                }
            }
            for (int[] p : parts) {
                if (p[1] == t || p[2] == t) {
                    return true;
                }
            }
            return false;
        }

        boolean spare() {
            return in(5) || in(6) || in(7);
        }
    }

    static final class Stop extends RuntimeException {
        private static final long serialVersionUID = 1L;
        final int answer;

        Stop(int answer) {
            super(null, null, false, false);
            this.answer = answer;
        }
    }

    final List<Formula> formulas = new ArrayList<>();
    final int[] values = new int[8];
    final int[] cells = {-1, -1, -1, -1, -1, -1, -1, -1, -1, -1};
    int differs;

    boolean no(int f) {
        return f < 0 || f >= formulas.size();
    }

    int formula() {
        if (formulas.size() == 60) {
            return FULL;
        }
        formulas.add(new Formula());
        return formulas.size() - 1;
    }

    int pure(int f, int how, int x, int y) {
        if (no(f) || how < 0 || how > 1 || x < 0 || x > 7 || y < 0 || y > 7) {
            return BAD;
        }
        List<int[]> to = formulas.get(f).pures;
        if (to.size() == 16) {
            return FULL;
        }
        to.add(new int[] {how, x, y});
        return to.size();
    }

    int part(int f, int how, int x, int y) {
        if (no(f) || how < 0 || how > 1 || x < 0 || x > 7 || y < 0 || y > 7) {
            return BAD;
        }
        List<int[]> to = formulas.get(f).parts;
        if (to.size() == 10) {
            return FULL;
        }
        to.add(new int[] {how, x, y});
        return to.size();
    }

    int beside(int f, int g) {
        if (no(f) || no(g)) {
            return BAD;
        }
        Formula both = formulas.get(f).copy();
        both.pures.addAll(formulas.get(g).copy().pures);
        both.parts.addAll(formulas.get(g).copy().parts);
        if (formulas.size() == 60 || both.pures.size() > 16 || both.parts.size() > 10) {
            return FULL;
        }
        formulas.add(both);
        return formulas.size() - 1;
    }

    int size(int f, int what) {
        if (no(f) || what < 0 || what > 1) {
            return BAD;
        }
        return what == 0 ? formulas.get(f).pures.size() : formulas.get(f).parts.size();
    }

    int told(int f, int which, int i, int what) {
        if (size(f, which) < 0 || i < 0 || i >= size(f, which) || what < 0 || what > 2) {
            return BAD;
        }
        return (which == 0 ? formulas.get(f).pures : formulas.get(f).parts).get(i)[what];
    }

    int drop() {
        if (formulas.isEmpty()) {
            return BAD;
        }
        formulas.remove(formulas.size() - 1);
        return formulas.size();
    }

    int set(int name, int a) {
        if (name < 1 || name > 4 || a < 0 || a > 9) {
            return BAD;
        }
        int was = values[name];
        values[name] = a;
        return was;
    }

    int cell(int address, int a) {
        if (address < 1 || address > 9 || a < -1 || a > 9) {
            return BAD;
        }
        int was = cells[address];
        cells[address] = a;
        return was;
    }

    int value(int name) {
        return name < 1 || name > 4 ? BAD : values[name];
    }

    int holds(int address) {
        return address < 1 || address > 9 ? -1 : cells[address];
    }

    int held() {
        int n = 0;
        for (int c : cells) {
            n += c >= 0 ? 1 : 0;
        }
        return n;
    }

    int fits(int f) {
        if (no(f)) {
            return BAD;
        }
        Formula it = formulas.get(f);
        int[] v = values.clone();
        for (v[5] = 0; v[5] <= (it.in(5) ? 9 : 0); v[5]++) {
            for (v[6] = 0; v[6] <= (it.in(6) ? 9 : 0); v[6]++) {
                for (v[7] = 0; v[7] <= (it.in(7) ? 9 : 0); v[7]++) {
                    if (fit(it, v, cells)) {
                        return 1;
                    }
                }
            }
        }
        return 0;
    }

    /** Whether a formula fits cells, all its names having values. */
    static boolean fit(Formula f, int[] v, int[] cells) {
        for (int[] p : f.pures) {
            if ((p[0] == 0) != (v[p[1]] == v[p[2]])) {
                return false;
            }
        }
        int[] times = new int[cells.length];
        for (int[] p : f.parts) {
            int from = v[p[1]], to = v[p[2]];
            if (p[0] == 0) {
                if (from == 0 || cells[from] != to) {
                    return false;
                }
                times[from]++;
            } else {
                for (int n = 0; from != to; n++) {
                    if (from == 0 || cells[from] < 0 || n > cells.length) {
                        return false;
                    }
                    times[from]++;
                    from = cells[from];
                }
            }
        }
        for (int a = 1; a < cells.length; a++) {
            if (times[a] != (cells[a] >= 0 ? 1 : 0)) {
                return false;
            }
        }
        return true;
    }

    static boolean noAct(int act, int x, int y) {
        boolean byY = act == 0 || act == 4 || act == 5 || act == 6 || act == 7;
        return act < 0 || act > 7 || x < 1 || x > 4 || byY && (y < 1 || y > 4);
    }

    int run(int act, int x, int y, int a) {
        if (noAct(act, x, y) || act == 2 && (a < 0 || a > 9)) {
            return BAD;
        }
        if (act == 0) {
            values[x] = values[y];
        } else if (act == 1) {
            values[x] = 0;
        } else if (act == 2) {
            int free = 1;
            while (free < 10 && cells[free] >= 0) {
                free++;
            }
            if (free == 10) {
                return MANY;
            }
            cells[free] = a;
            values[x] = free;
        } else if (act == 6 || act == 7) {
            return (values[x] == values[y]) == (act == 6) ? 1 : 0;
        } else {
            int at = values[act == 4 ? y : x];
            if (at == 0 || cells[at] < 0) {
                return FAULT;
            }
            if (act == 3) {
                cells[at] = -1;
            } else if (act == 4) {
                values[x] = cells[at];
            } else {
                cells[at] = values[y];
            }
        }
        return 1;
    }

    /**
     * Memories and values of one formula, each once but for the numbers of its addresses,
     * with ROWS of at most some length: is one of them no memory of another formula?
     */
    static final class Models {
        final Formula f;
        final Formula g;
        final int longest;
        final int[] v = new int[8];
        final int[] cells = new int[64];
        long budget = 3_000_000;

        Models(Formula f, Formula g, int longest) {
            this.f = f;
            this.g = g;
            this.longest = longest;
            Arrays.fill(cells, -1);
        }

        boolean values(int term, int most) {
            if (--budget < 0) {
                return false;
            }
            if (term == 8) {
                for (int[] p : f.pures) {
                    if ((p[0] == 0) != (v[p[1]] == v[p[2]])) {
                        return false;
                    }
                }
                return part(0, most);
            }
            if (!f.in(term) && (g == null || !g.in(term))) {
                return values(term + 1, most);
            }
            for (int a = 0; a <= most + 1; a++) {
                v[term] = a;
                if (values(term + 1, Math.max(most, a))) {
                    return true;
                }
            }
            return false;
        }

        boolean part(int i, int most) {
            if (--budget < 0) {
                return false;
            }
            if (i == f.parts.size()) {
                return g == null || !fit(g, v, Arrays.copyOf(cells, most + 1));
            }
            int[] p = f.parts.get(i);
            int from = v[p[1]], to = v[p[2]];
            if (p[0] == 1 && from == to) {
                return part(i + 1, most);
            }
            if (from == 0 || cells[from] >= 0) {
                return false;
            }
            return p[0] == 0 ? hold(from, to, i, most) : row(from, to, i, most, 1);
        }

        boolean hold(int at, int to, int i, int most) {
            cells[at] = to;
            boolean found = part(i + 1, most);
            cells[at] = -1;
            return found;
        }

        boolean row(int at, int to, int i, int most, int length) {
            if (hold(at, to, i, most)) {
                return true;
            }
            for (int next = 1; next <= most + 1 && length < longest; next++) {
                if (next == to || next == at || cells[next] >= 0) {
                    continue;
                }
                cells[at] = next;
                boolean found = row(next, to, i, Math.max(most, next), length + 1);
                cells[at] = -1;
                if (found) {
                    return true;
                }
            }
            return false;
        }
    }

    static boolean isFit(Formula f) {
        Models models = new Models(f, null, 1);
        return models.values(1, 0);
    }

    int is(int f) {
        return no(f) ? BAD : isFit(formulas.get(f)) ? 1 : 0;
    }

    int says(int f, int g) {
        if (no(f) || no(g)) {
            return BAD;
        }
        if (formulas.get(g).spare()) {
            return MANY;
        }
        Models models = new Models(formulas.get(f), formulas.get(g), 3);
        boolean parted = models.values(1, 0);
        if (!parted && models.budget < 0) {
            models = new Models(formulas.get(f), formulas.get(g), 2);
            parted = models.values(1, 0);
        }
        return parted ? 0 : models.budget < 0 ? UNKNOWN : 1;
    }

    int differ(int f, int g) {
        if (no(f) || no(g)) {
            return BAD;
        }
        if (formulas.get(f).spare() || formulas.get(g).spare() || differs == 40) {
            return MANY;
        }
        differs++;
        int[] v = new int[8];
        int[] c = {-1, -1, -1, -1};
        for (c[1] = -1; c[1] <= 3; c[1]++) {
            for (c[2] = -1; c[2] <= 3; c[2]++) {
                for (c[3] = -1; c[3] <= 3; c[3]++) {
                    for (int n = 0; n < 256; n++) {
                        for (int i = 1; i <= 4; i++) {
                            v[i] = n >> 8 - 2 * i & 3;
                        }
                        if (fit(formulas.get(f), v, c) && !fit(formulas.get(g), v, c)) {
                            System.arraycopy(v, 0, values, 0, 5);
                            Arrays.fill(cells, -1);
                            System.arraycopy(c, 0, cells, 0, 4);
                            return 1;
                        }
                    }
                }
            }
        }
        return 0;
    }

    int count(int what) {
        return what == 0 ? formulas.size() : what == 1 ? differs : BAD;
    }

    int step(int f, int act, int x, int y) {
        if (no(f) || noAct(act, x, y)) {
            return BAD;
        }
        List<Formula> made = new ArrayList<>();
        try {
            through(formulas.get(f).copy(), act, x, y, made);
        } catch (Stop stop) {
            return stop.answer;
        }
        if (formulas.size() + made.size() > 60) {
            return FULL;
        }
        formulas.addAll(made);
        return made.size();
    }

    static void through(Formula one, int act, int x, int y, List<Formula> made) {
        if (!isFit(one)) {
            return;
        }
        int[] used = null;
        if (act == 3 || act == 4 || act == 5) {
            int t = act == 4 ? y : x;
            for (int i = one.parts.size() - 1; i >= 0; i--) {
                if (one.parts.get(i)[0] == 0 && same(one, one.parts.get(i)[1], t)) {
                    used = one.parts.get(i);
                }
            }
            if (used == null) {
                opened(one, t, act, x, y, made);
                return;
            }
        }
        int v = act == 0 ? y : act == 1 ? 0 : act == 4 ? used[2] : -1;
        if (act == 3) {
            one.parts.remove(used);
        } else if (act == 5) {
            used[2] = y;
        } else if (act == 6 || act == 7) {
            put(one, act - 6, x, y);
        } else if (act != 0 || x != y) {
            if (one.in(x)) {
                int s = spare(one);
                for (List<int[]> all : List.of(one.pures, one.parts)) {
                    for (int[] p : all) {
                        p[1] = p[1] == x ? s : p[1];
                        p[2] = p[2] == x ? s : p[2];
                    }
                }
                v = v == x ? s : v;
            }
            if (act == 2) {
                one.parts.add(new int[] {0, x, spare(one)});
            } else {
                put(one, 0, x, v);
            }
        }
        if (one.parts.size() > 10) {
            throw new Stop(SPENT);
        }
        if (isFit(one)) {
            made.add(one);
        }
    }

    static void opened(Formula one, int t, int act, int x, int y, List<Formula> made) {
        int at = 0;
        while (at < one.parts.size() && !(one.parts.get(at)[0] == 1 && same(one, one.parts.get(at)[1], t))) {
            at++;
        }
        if (at == one.parts.size()) {
            throw new Stop(FAULT);
        }
        int[] row = one.parts.get(at);
        Formula empty = one.copy();
        empty.parts.remove(at);
        put(empty, 0, row[1], row[2]);
        through(empty, act, x, y, made);
        Formula more = one.copy();
        int s = spare(one);
        more.parts.set(at, new int[] {0, row[1], s});
        more.parts.add(at + 1, new int[] {1, s, row[2]});
        put(more, 1, row[1], row[2]);
        if (more.parts.size() > 10) {
            throw new Stop(SPENT);
        }
        through(more, act, x, y, made);
    }

    static int spare(Formula f) {
        for (int s = 5; s <= 7; s++) {
            if (!f.in(s)) {
                return s;
            }
        }
        throw new Stop(SPENT);
    }

    static void put(Formula f, int how, int x, int y) {
        for (int[] p : f.pures) {
            if (p[0] == how && p[1] == x && p[2] == y) {
                return;
            }
        }
        if (f.pures.size() == 16) {
            throw new Stop(SPENT);
        }
        f.pures.add(new int[] {how, x, y});
    }

    static boolean same(Formula f, int a, int b) {
        boolean[] reached = new boolean[8];
        List<Integer> toDo = new ArrayList<>();
        toDo.add(a);
        while (!toDo.isEmpty()) {
            int t = toDo.remove(toDo.size() - 1);
            if (reached[t]) {
                continue;
            }
            reached[t] = true;
            for (int[] p : f.pures) {
                if (p[0] == 0 && (p[1] == t || p[2] == t)) {
                    toDo.add(p[1]);
                    toDo.add(p[2]);
                }
            }
        }
        return reached[b];
    }

    /** Values of the terms, then what the cells hold: made for a formula, with luck one that it fits. */
    int[] someMemory(int f, Random chance) {
        int[] made = new int[17];
        for (int turn = 0; turn < 60; turn++) {
            Arrays.fill(made, 8, 17, -1);
            for (int t = 1; t <= 7; t++) {
                made[t] = chance.nextInt(10);
            }
            for (int[] p : formulas.get(f).pures) {
                if (p[0] == 0 && p[1] != 0) {
                    made[p[1]] = made[p[2]];
                } else if (p[0] == 0 && p[2] != 0) {
                    made[p[2]] = made[p[1]];
                }
            }
            for (int[] p : formulas.get(f).parts) {
                int at = made[p[1]], to = made[p[2]];
                int length = p[0] == 0 ? 1 : at == to ? 0 : 1 + chance.nextInt(3);
                for (int n = 0; n < length && at != 0 && made[7 + at] < 0; n++) {
                    int next = n == length - 1 ? to : 1 + chance.nextInt(9);
                    made[7 + at] = next;
                    at = next;
                }
            }
            int[] v = Arrays.copyOf(made, 8);
            int[] c = new int[10];
            System.arraycopy(made, 8, c, 1, 9);
            c[0] = -1;
            if (fit(formulas.get(f), v, c)) {
                break;
            }
        }
        return made;
    }
}
