import java.util.ArrayList;
import java.util.List;

/**
 * Compares the class with a second reading of the document, written in another way on purpose: soundness by crossing out
 * matched pairs in a text, values as arrays of trits, and a run that descends into sections.
 */
public final class ModelTests {
    private static final int RUNS = 6000;
    private static final int CALLS = 511;

    private static int passed = 0;
    private static int failed = 0;

    /** What the document says, told plainly. */
    private static final class Model {
        final List<int[]> program = new ArrayList<>();
        final long[] values = new long[6];
        List<Long> output = new ArrayList<>();

        long add(int kind, int a, int b, int c) {
            if (program.size() == 40) {
                return -10001;
            }
            String[] numbers = {"a", "abc", "abc", "abc", "ab", "ab", "abc", "a", "", "", "a", "", "a"};
            if (kind < 0 || kind > 12) {
                return -10000;
            }
            boolean bad = numbers[kind].contains("a") && outside(a)
                || numbers[kind].contains("b") && outside(b)
                || numbers[kind].contains("c") && outside(c);
            if (bad) {
                return -10000;
            }
            program.add(new int[] {kind, a, b, c});
            return program.size();
        }

        long retract() {
            if (program.isEmpty()) {
                return -10000;
            }
            program.remove(program.size() - 1);
            return program.size();
        }

        boolean sound() {
            StringBuilder text = new StringBuilder();
            for (int[] statement : program) {
                text.append("-------CZPLE-".charAt(statement[0]));
            }
            String open = text.toString().replace("-", "");
            // Each round takes the innermost pairs away, so the number of rounds is the depth.
            for (int round = 0; round < 3; round++) {
                open = open.replaceAll("CZ?P?E|LE", "");
            }
            return open.isEmpty();
        }

        boolean put(int v, int value) {
            if (outside(v)) {
                return false;
            }
            values[v] = wrap(value);
            return true;
        }

        long run() {
            if (!sound()) {
                return -10002;
            }
            output = new ArrayList<>();
            passPart(0, program.size());
            return output.size();
        }

        long variable(int v) {
            return outside(v) ? -10000 : values[v];
        }

        long trit(int v, int i) {
            return outside(v) || i < 0 || i > 8 ? -10000 : trits(values[v])[i];
        }

        long output(int k) {
            return k < 0 || k >= output.size() || k >= 48 ? -10000 : output.get(k);
        }

        void clear() {
            program.clear();
            java.util.Arrays.fill(values, 0);
            output.clear();
        }

        private void passPart(int from, int to) {
            for (int at = from; at < to; at++) {
                int[] s = program.get(at);
                if (s[0] == 10) {
                    int end = nextAtLevel(at + 1, 11, program.size());
                    for (int n = 0; n < s[1]; n++) {
                        passPart(at + 1, end);
                    }
                    at = end;
                } else if (s[0] == 7) {
                    int end = nextAtLevel(at + 1, 11, program.size());
                    int pos = nextAtLevel(at + 1, 9, end);
                    int zero = nextAtLevel(at + 1, 8, pos);
                    long sign = Long.signum(values[s[1]]);
                    if (sign < 0) {
                        passPart(at + 1, zero);
                    } else if (sign == 0) {
                        passPart(zero + 1, pos);
                    } else {
                        passPart(pos + 1, end);
                    }
                    at = end;
                } else if (s[0] == 12) {
                    output.add(values[s[1]]);
                } else {
                    values[s[1]] = result(s);
                }
            }
        }

        /** The first statement of the kind that lies in nothing opened since, or the bound if there is none. */
        private int nextAtLevel(int from, int kind, int bound) {
            int level = 0;
            for (int at = from; at < bound; at++) {
                int here = program.get(at)[0];
                if (level == 0 && here == kind) {
                    return at;
                }
                level += here == 7 || here == 10 ? 1 : here == 11 ? -1 : 0;
            }
            return bound;
        }

        private long result(int[] s) {
            if (s[0] == 0) {
                return wrap(s[2]);
            }
            long b = values[s[2]];
            long[] tb = trits(b);
            switch (s[0]) {
                case 1: return wrap(b + values[s[3]]);
                case 2: return wrap(b - values[s[3]]);
                case 3: return wrap(b * values[s[3]]);
                case 4: return wrap(3 * b);
                case 5: return valueOf(new long[] {tb[1], tb[2], tb[3], tb[4], tb[5], tb[6], tb[7], tb[8], 0});
                default: break;
            }
            long[] tc = trits(values[s[3]]);
            long[] low = new long[9];
            for (int i = 0; i < 9; i++) {
                low[i] = Math.min(tb[i], tc[i]);
            }
            return valueOf(low);
        }

        private static boolean outside(int v) {
            return v < 0 || v > 5;
        }

        private static long wrap(long number) {
            return Math.floorMod(number + 9841, 19683L) - 9841;
        }

        /** Adding 9841, a 1 in each place, makes the trits the digits 0 to 2 of an ordinary ternary number. */
        private static long[] trits(long value) {
            long[] trits = new long[9];
            long digits = value + 9841;
            for (int i = 0; i < 9; i++) {
                trits[i] = digits % 3 - 1;
                digits /= 3;
            }
            return trits;
        }

        private static long valueOf(long[] trits) {
            long value = 0;
            for (int i = 8; i >= 0; i--) {
                value = 3 * value + trits[i];
            }
            return value;
        }
    }

    /** Numbers that are the same every time. */
    private static final class Numbers {
        private long state;

        Numbers(long seed) {
            state = seed * 2654435761L + 12345;
        }

        int below(int bound) {
            state = state * 6364136223846793005L + 1442695040888963407L;
            return (int) ((state >>> 33) % bound);
        }

        int near() {
            int[] edges = {0, 1, -1, 2, -2, 9840, 9841, 9842, -9840, -9841, -9842, 19683, -19683, 4921,
                Integer.MAX_VALUE, Integer.MIN_VALUE};
            return below(2) == 0 ? edges[below(edges.length)] : below(60000) - 30000;
        }

        int variable() {
            return below(40) == 0 ? (below(2) == 0 ? -1 : 6) : below(6);
        }
    }

    public static void main(String[] args) {
        for (int run = 0; run < RUNS && failed < 20; run++) {
            compare(run);
        }
        System.out.println("ModelTests: " + passed + " passed, " + failed + " failed");
        if (failed != 0) {
            System.exit(1);
        }
    }

    private static void due(int run, int call, String what, long got, long want) {
        if (got == want) {
            passed++;
        } else {
            failed++;
            System.out.println("run " + run + ", call " + call + ": " + what + " answered " + got + ", due is " + want);
        }
    }

    private static void compare(int run) {
        Numbers n = new Numbers(run);
        TernaryCompiler x = new TernaryCompiler();
        Model m = new Model();
        // Some runs feed mostly plain statements, some mostly openings and closings.
        int order = run % 4;
        for (int call = 0; call < CALLS && failed < 20; call++) {
            int choice = n.below(100);
            if (choice < 45) {
                int kind = kindToFeed(n, m, order);
                int a = n.variable();
                int b = kind == 0 ? n.near() : n.variable();
                int c = n.variable();
                due(run, call, "add(" + kind + ", " + a + ", " + b + ", " + c + ")", x.add(kind, a, b, c), m.add(kind, a, b, c));
            } else if (choice < 55) {
                due(run, call, "retract()", x.retract(), m.retract());
            } else if (choice < 62) {
                int v = n.variable();
                int value = n.near();
                due(run, call, "put(" + v + ", " + value + ")", x.put(v, value) ? 1 : 0, m.put(v, value) ? 1 : 0);
            } else if (choice < 70) {
                due(run, call, "run()", x.run(), m.run());
            } else if (choice < 75) {
                due(run, call, "sound()", x.sound() ? 1 : 0, m.sound() ? 1 : 0);
            } else if (choice < 82) {
                int v = n.variable();
                due(run, call, "variable(" + v + ")", x.variable(v), m.variable(v));
            } else if (choice < 88) {
                int v = n.variable();
                int i = n.below(11) - 1;
                due(run, call, "trit(" + v + ", " + i + ")", x.trit(v, i), m.trit(v, i));
            } else if (choice < 92) {
                due(run, call, "printed()", x.printed(), m.output.size());
            } else if (choice < 99 || n.below(3) != 0) {
                int k = n.below(2) == 0 ? n.below(52) - 1 : n.below(m.output.size() + 2) - 1;
                due(run, call, "output(" + k + ")", x.output(k), m.output(k));
            } else {
                x.clear();
                m.clear();
            }
        }
    }

    private static int kindToFeed(Numbers n, Model m, int order) {
        int[] structure = {7, 8, 9, 10, 11, 11, 11};
        if (n.below(60) == 0) {
            return n.below(2) == 0 ? -1 : 13;
        }
        if (order == 3) {
            return n.below(13);
        }
        // Mostly what keeps or makes the program sound, so that runs go deep.
        if (n.below(4) < order) {
            int kind = structure[n.below(structure.length)];
            boolean before = m.sound();
            m.program.add(new int[] {kind, 0, 0, 0});
            boolean closable = closable(m);
            m.program.remove(m.program.size() - 1);
            if (closable || !before && n.below(30) == 0) {
                return kind;
            }
        }
        return n.below(3) == 0 ? 12 : n.below(7);
    }

    private static boolean closable(Model m) {
        boolean sound = m.sound();
        int size = m.program.size();
        for (int more = 0; more < 3 && !sound; more++) {
            m.program.add(new int[] {11, 0, 0, 0});
            sound = m.sound();
        }
        while (m.program.size() > size) {
            m.program.remove(m.program.size() - 1);
        }
        return sound;
    }
}
