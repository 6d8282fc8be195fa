import java.util.List;
import java.util.Random;

/**
 * Runs of chance calls (from fixed seeds) on HeapLaw and on Plain, a second and slow reading
 * of the document. Each answer of one must be the other's.
 */
public final class FuzzTest {
    static int wrong = 0;
    // How often it was not said, was said for nothing (nothing fits, or of itself), was said.
    static final int[] said = new int[3];

    public static void main(String[] args) {
        int runs = args.length > 1 ? Integer.parseInt(args[1]) : 260;
        int firstSeed = args.length > 2 ? Integer.parseInt(args[2]) : 1;
        int[] answers = new int[6];
        for (int seed = firstSeed; seed < firstSeed + runs && wrong < 10; seed++) {
            new Run(seed, answers).go();
        }
        System.out.println("answers: 0 or more " + answers[0] + ", BAD " + answers[1] + ", FULL " + answers[2]
            + ", MANY " + answers[3] + ", SPENT " + answers[4] + ", FAULT " + answers[5]);
        System.out.println("says: 0 " + said[0] + ", 1 for nothing " + said[1] + ", 1 in earnest " + said[2]);
        System.out.println(wrong == 0 ? "both readings agree" : wrong + " answers differ");
        if (wrong != 0) {
            System.exit(1);
        }
    }

    static final class Run {
        final int seed;
        final int[] answers;
        final Random chance;
        final HeapLaw law = new HeapLaw();
        final Plain plain = new Plain();
        final StringBuilder told = new StringBuilder();
        // How a run is coloured: how many terms it uses, how often it asks for wrong things.
        final int terms;
        final int wrongs;
        final int growth;

        Run(int seed, int[] answers) {
            this.seed = seed;
            this.answers = answers;
            chance = new Random(seed);
            terms = new int[] {3, 4, 5, 5, 6, 8}[chance.nextInt(6)];
            wrongs = new int[] {1000, 60, 12}[chance.nextInt(3)];
            growth = new int[] {1, 1, 2, 5}[chance.nextInt(4)];
        }

        void go() {
            for (int n = 0; n < 512 && wrong < 10; n++) {
                one();
            }
            compareAll();
        }

        void one() {
            int k = chance.nextInt(100);
            if (k < 5 && plain.formulas.size() < 55 || k < 1) {
                fresh();
            } else if (k < 10 && plain.formulas.size() > 0 && plain.formulas.size() < 55) {
                kin();
            } else if (k < 20) {
                for (int i = 0; i < growth; i++) {
                    grow();
                }
            } else if (k < 24) {
                int f = f(), g = f();
                due("beside", law.beside(f, g), plain.beside(f, g), f, g);
            } else if (k < 30 || plain.formulas.size() > 50 && k < 60) {
                due("drop", law.drop(), plain.drop());
            } else if (k < 36) {
                shape();
            } else if (k < 44) {
                memory();
            } else if (k < 50) {
                fitting();
            } else if (k < 58) {
                int act = off(chance.nextInt(8)), x = name(), y = name(), a = off(chance.nextInt(10));
                due("run", law.run(act, x, y, a), plain.run(act, x, y, a), act, x, y, a);
            } else if (k < 62) {
                int f = f();
                due("is", law.is(f), plain.is(f), f);
            } else if (k < 78) {
                saying(f(), f());
            } else if (k < 95) {
                int f = f(), act = off(chance.nextInt(8)), x = name(), y = name();
                due("step", law.step(f, act, x, y), plain.step(f, act, x, y), f, act, x, y);
                compareAll();
            } else if (k < 98) {
                int f = f(), g = f();
                due("differ", law.differ(f, g), plain.differ(f, g), f, g);
                compareMemory();
            } else {
                int what = off(chance.nextInt(2));
                due("count", law.count(what), plain.count(what), what);
            }
        }

        void fresh() {
            due("formula", law.formula(), plain.formula());
            int pures = chance.nextInt(4), parts = chance.nextInt(5);
            int f = plain.formulas.size() - 1;
            // Only where few terms may be the same do the ends that lie inside of ROWS count.
            int apart = chance.nextInt(2) * (4 + chance.nextInt(12));
            for (int x = 1; x < Math.min(terms, 5); x++) {
                for (int y = 0; y < x && apart > 0; y++) {
                    if (chance.nextInt(apart) > 0) {
                        due("pure", law.pure(f, 1, x, y), plain.pure(f, 1, x, y), f, 1, x, y);
                        pures = 0;
                    }
                }
            }
            for (int i = 0; i < pures; i++) {
                int how = chance.nextInt(2), x = chance.nextInt(terms), y = chance.nextInt(terms);
                due("pure", law.pure(f, how, x, y), plain.pure(f, how, x, y), f, how, x, y);
            }
            int x = chance.nextInt(terms), y = chance.nextInt(terms);
            for (int i = 0; i < parts; i++) {
                int how = chance.nextInt(2);
                due("part", law.part(f, how, x, y), plain.part(f, how, x, y), f, how, x, y);
                // Parts often follow one another: else hardly any formula would say another one.
                x = chance.nextInt(3) > 0 ? y : chance.nextInt(terms);
                y = chance.nextInt(terms);
            }
        }

        /** Makes a weaker or otherwise kindred formula of one that is there, and asks what they say. */
        void kin() {
            int f = plain.formulas.size() - 1 - chance.nextInt(Math.min(6, plain.formulas.size()));
            due("formula", law.formula(), plain.formula());
            int g = plain.formulas.size() - 1;
            for (int[] p : plain.formulas.get(f).pures) {
                if (chance.nextInt(2) == 0 && p[1] < 5 && p[2] < 5) {
                    due("pure", law.pure(g, p[0], p[1], p[2]), plain.pure(g, p[0], p[1], p[2]), g, p[0], p[1], p[2]);
                }
            }
            List<int[]> parts = plain.formulas.get(f).copy().parts;
            for (int i = 0; i < parts.size(); i++) {
                int[] p = parts.get(i);
                p[0] = chance.nextInt(3) == 0 ? 1 : p[0];
                while (i + 1 < parts.size() && parts.get(i + 1)[1] == p[2] && (p[2] > 4 || chance.nextInt(2) == 0)) {
                    p[0] = 1;
                    p[2] = parts.remove(i + 1)[2];
                }
                int x = p[1] > 4 ? 1 + chance.nextInt(4) : p[1], y = p[2] > 4 ? chance.nextInt(5) : p[2];
                if (chance.nextInt(12) > 0) {
                    due("part", law.part(g, p[0], x, y), plain.part(g, p[0], x, y), g, p[0], x, y);
                }
            }
            saying(f, g);
            saying(g, f);
        }

        void saying(int f, int g) {
            int want = plain.says(f, g);
            if (want != Plain.UNKNOWN) {
                due("says", law.says(f, g), want, f, g);
                said[want == 1 ? plain.is(f) == 1 && f != g ? 2 : 1 : 0]++;
            }
        }

        void grow() {
            int f = f(), how = off(chance.nextInt(2)), x = term(), y = term();
            if (chance.nextInt(2) == 0) {
                due("pure", law.pure(f, how, x, y), plain.pure(f, how, x, y), f, how, x, y);
            } else {
                due("part", law.part(f, how, x, y), plain.part(f, how, x, y), f, how, x, y);
            }
        }

        void shape() {
            int f = f(), which = off(chance.nextInt(2)), i = chance.nextInt(6) - 1, what = off(chance.nextInt(3));
            due("told", law.told(f, which, i, what), plain.told(f, which, i, what), f, which, i, what);
            due("size", law.size(f, which), plain.size(f, which), f, which);
        }

        void memory() {
            int name = name(), address = off(1 + chance.nextInt(9)), a = off(chance.nextInt(11) - 1);
            due("set", law.set(name, a), plain.set(name, a), name, a);
            due("cell", law.cell(address, a), plain.cell(address, a), address, a);
            compareMemory();
        }

        /** Makes the memory one that a formula fits, as nearly as chance allows, and asks. */
        void fitting() {
            int f = f();
            if (f >= 0 && f < plain.formulas.size() && chance.nextInt(4) > 0) {
                int[] made = plain.someMemory(f, chance);
                for (int i = 1; i <= 4; i++) {
                    due("set", law.set(i, made[i]), plain.set(i, made[i]), i, made[i]);
                }
                for (int i = 1; i <= 9; i++) {
                    due("cell", law.cell(i, made[7 + i]), plain.cell(i, made[7 + i]), i, made[7 + i]);
                }
            }
            due("fits", law.fits(f), plain.fits(f), f);
            int g = f();
            due("fits", law.fits(g), plain.fits(g), g);
            stepBesideRun(f);
        }

        /** If f fits, what a step makes of it must fit what a run makes of the memory. */
        void stepBesideRun(int f) {
            if (plain.fits(f) != 1) {
                return;
            }
            int act = chance.nextInt(8), x = 1 + chance.nextInt(4), y = 1 + chance.nextInt(4), a = chance.nextInt(10);
            int first = law.count(0);
            int stepped = law.step(f, act, x, y);
            due("step", stepped, plain.step(f, act, x, y), f, act, x, y);
            int ran = law.run(act, x, y, a);
            due("run", ran, plain.run(act, x, y, a), act, x, y, a);
            if (stepped >= 0 && ran == HeapLaw.FAULT) {
                wrong++;
                System.out.println("seed " + seed + ": a step that tells no FAULT, and a run that does\n" + told);
            }
            if (stepped < 0 || ran != 1) {
                return;
            }
            boolean found = false;
            for (int g = first; g < first + stepped; g++) {
                found = found || law.fits(g) == 1;
            }
            if (!found) {
                wrong++;
                System.out.println("seed " + seed + ": a run leaves what a step makes\n" + told);
            }
        }

        void compareAll() {
            due("count", law.count(0), plain.count(0), 0);
            for (int f = 0; f < plain.formulas.size(); f++) {
                for (int which = 0; which < 2; which++) {
                    due("size", law.size(f, which), plain.size(f, which), f, which);
                    for (int i = 0; i < plain.size(f, which); i++) {
                        for (int what = 0; what < 3; what++) {
                            due("told", law.told(f, which, i, what), plain.told(f, which, i, what), f, which, i, what);
                        }
                    }
                }
            }
        }

        void compareMemory() {
            for (int i = 0; i <= 5; i++) {
                due("value", law.value(i), plain.value(i), i);
            }
            for (int i = 0; i <= 10; i++) {
                due("holds", law.holds(i), plain.holds(i), i);
            }
            due("held", law.held(), plain.held());
        }

        int off(int a) {
            return chance.nextInt(wrongs) == 0 ? (chance.nextBoolean() ? chance.nextInt() : a - 2 + chance.nextInt(14)) : a;
        }

        int f() {
            int n = plain.formulas.size();
            if (n == 0) {
                return off(0);
            }
            return off(chance.nextInt(3) == 0 ? chance.nextInt(n) : n - 1 - chance.nextInt(Math.min(n, 6)));
        }

        int term() {
            return off(chance.nextInt(terms));
        }

        int name() {
            return off(1 + chance.nextInt(4));
        }

        void due(String call, int got, int want, int... with) {
            boolean quiet = call.equals("told") || call.equals("size") || call.equals("value") || call.equals("holds");
            StringBuilder line = new StringBuilder(call).append('(');
            for (int i = 0; i < with.length; i++) {
                line.append(i == 0 ? "" : ", ").append(with[i]);
            }
            line.append(") ").append(want).append('\n');
            if (!quiet) {
                told.append(line);
                answers[want < 0 && want >= -5 ? -want : 0]++;
            }
            if (got != want) {
                wrong++;
                System.out.println("seed " + seed + ": " + line.toString().trim() + " is due, answered " + got
                    + ", behind\n" + told);
            }
        }
    }
}
