import java.util.ArrayList;
import java.util.List;

/**
 * Calls that lead a new object to a state. Each look is at an object of its own, led there
 * anew, so that none is used for more than the 512 calls that the document allows.
 */
final class Given {
    interface Call {
        int on(HeapLaw h);
    }

    private static final int MOST_LEADING = 400;

    private final List<Call> lead = new ArrayList<>();
    private int formulas;

    /** Formulas from texts: "1=2 1!0 1>2 1~0" is EQUAL, OTHER, CELL, ROW. */
    static Given formulas(String... texts) {
        Given given = new Given();
        for (String text : texts) {
            given.formula(text);
        }
        return given;
    }

    /** A memory: what the cells at 1, 2, .. hold (-1: none). */
    static Given cells(int... held) {
        Given given = new Given();
        for (int i = 0; i < held.length; i++) {
            int address = i + 1, a = held[i];
            given.then(h -> h.cell(address, a));
        }
        return given;
    }

    /** The values of the names 1, 2, .. */
    Given values(int... values) {
        for (int i = 0; i < values.length; i++) {
            int name = i + 1, a = values[i];
            then(h -> h.set(name, a));
        }
        return this;
    }

    /** The same calls, so that more can follow without changing this one. */
    Given copy() {
        Given other = new Given();
        other.lead.addAll(lead);
        other.formulas = formulas;
        return other;
    }

    int lastFormula() {
        return formulas - 1;
    }

    Given formula(String text) {
        int f = formulas;
        formulas++;
        lead.add(h -> expect(h.formula(), f, text));
        int pures = 0, parts = 0;
        for (String word : text.trim().split(" +")) {
            if (!word.isEmpty()) {
                boolean pure = "=!".indexOf(word.charAt(1)) >= 0;
                int nth = pure ? ++pures : ++parts;
                add(f, pure, "=>".indexOf(word.charAt(1)) >= 0 ? 0 : 1, word, nth);
            }
        }
        return this;
    }

    private void add(int f, boolean pure, int how, String word, int nth) {
        int x = word.charAt(0) - '0', y = word.charAt(2) - '0';
        lead.add(h -> expect(pure ? h.pure(f, how, x, y) : h.part(f, how, x, y), nth, word));
    }

    private static int expect(int got, int want, String of) {
        if (got != want) {
            throw new IllegalStateException("on the way, " + of + " answered " + got + ", due is " + want);
        }
        return got;
    }

    /** Formulas without parts, until there are so many. */
    Given upTo(int many) {
        while (formulas < many) {
            formula("");
        }
        return this;
    }

    Given then(Call call) {
        lead.add(call);
        return this;
    }

    Given times(int many, Call call) {
        for (int i = 0; i < many; i++) {
            then(call);
        }
        return this;
    }

    HeapLaw led(Call... after) {
        if (lead.size() > MOST_LEADING) {
            throw new IllegalStateException("too many calls on the way");
        }
        HeapLaw h = new HeapLaw();
        for (Call call : lead) {
            call.on(h);
        }
        for (Call call : after) {
            call.on(h);
        }
        return h;
    }

    /** All that can be seen of the state behind some more calls. */
    String look(Call... after) {
        HeapLaw h = led(after);
        StringBuilder out = new StringBuilder(memoryOf(h));
        out.append(" differed ").append(h.count(1));
        int made = h.count(0);
        for (int f = 0; f < made; f++) {
            out.append(" [").append(shown(led(after), f)).append(']');
        }
        return out.toString();
    }

    static String memoryOf(HeapLaw h) {
        StringBuilder out = new StringBuilder("cells");
        for (int address = 1; address <= 9; address++) {
            out.append(' ').append(h.holds(address));
        }
        out.append(" held ").append(h.held()).append(" values");
        for (int name = 1; name <= 4; name++) {
            out.append(' ').append(h.value(name));
        }
        return out.toString();
    }

    static String shown(HeapLaw h, int f) {
        StringBuilder out = new StringBuilder();
        for (int which = 0; which < 2; which++) {
            int size = h.size(f, which);
            for (int i = 0; i < size; i++) {
                out.append(out.length() == 0 ? "" : " ").append(h.told(f, which, i, 1));
                out.append((which == 0 ? "=!" : ">~").charAt(h.told(f, which, i, 0)));
                out.append(h.told(f, which, i, 2));
            }
        }
        return out.toString();
    }
}
