import java.util.ArrayDeque;
import java.util.ArrayList;
import java.util.Deque;
import java.util.List;
import java.util.Random;

/** Long runs of mixed calls against a second telling of the document, written another way. */
public final class ModelTest {
    private static final int OBJECTS = 1500;
    private static final int CALLS = 512;

    public static void main(String[] args) {
        // The seed is fixed, so each run of this test makes the same calls.
        Random random = new Random(20261115L);
        for (int object = 0; object < OBJECTS; object++) {
            compare(object, random);
        }
        Due.end();
    }

    private static void compare(int object, Random random) {
        GotoColour x = new GotoColour();
        Model model = new Model();
        int wildness = random.nextInt(3);
        // Not one call more than CALLS: what later ones answer is free.
        for (int call = 1; call <= CALLS; call++) {
            compareCall("object " + object + ", call " + call + ": ", x, model, random, wildness);
        }
    }

    private static void compareCall(String at, GotoColour x, Model model, Random random, int wildness) {
        // Of 25: fewer retracts than emits, so that programs grow full.
        int kind = random.nextInt(25);
        if (kind < 6) {
            int op = number(random, wildness, 11);
            int a = number(random, wildness, op == GotoColour.GOTO ? 32 : 8);
            int b = number(random, wildness, op == GotoColour.IFGOTO || op == GotoColour.SWITCH ? 32 : 8);
            int c = number(random, wildness, op == GotoColour.SWITCH ? 5 : 8);
            Due.is(at + "emit(" + op + ", " + a + ", " + b + ", " + c + ")",
                    x.emit(op, a, b, c), model.emit(op, a, b, c));
        } else if (kind < 7) {
            Due.is(at + "retract()", x.retract(), model.retract());
        } else if (kind < 9) {
            int v = number(random, wildness, 8);
            int value = random.nextInt(4) == 0 ? random.nextInt() : random.nextInt(8) - 2;
            Due.is(at + "start(" + v + ", " + value + ")", x.start(v, value), model.start(v, value));
        } else if (kind < 13) {
            int fuel = random.nextInt(3) == 0 ? random.nextInt(40) : number(random, wildness, 260);
            Due.is(at + "run(" + fuel + ")", x.run(fuel), model.run(fuel));
        } else if (kind < 15) {
            Due.is(at + "executed()", x.executed(), model.executed);
        } else if (kind < 17) {
            Due.is(at + "printed()", x.printed(), model.output.size());
        } else if (kind < 21) {
            int k = number(random, wildness, 36);
            Due.is(at + "output(" + k + ")", x.output(k), model.output(k));
        } else if (kind < 23) {
            int i = number(random, wildness, 34);
            Due.is(at + "live(" + i + ")", x.live(i), model.live(i));
        } else {
            int u = number(random, wildness, 8);
            int v = number(random, wildness, 8);
            Due.is(at + "meet(" + u + ", " + v + ")", x.meet(u, v), model.meet(u, v));
        }
    }

    /** Mostly 0 .. bound - 1; the wilder, the more often another one. */
    private static int number(Random random, int wildness, int bound) {
        if (random.nextInt(30) < wildness) {
            return random.nextBoolean() ? random.nextInt() : random.nextInt(bound + 6) - 3;
        }
        return random.nextInt(bound);
    }

    private static final class Model {
        final List<int[]> program = new ArrayList<>();
        final int[] starts = new int[8];
        List<Integer> output = new ArrayList<>();
        int executed = 0;

        int emit(int op, int a, int b, int c) {
            if (program.size() == 32) {
                return GotoColour.FULL;
            }
            // What each number of each instruction is: v a variable, t a target, n a switch's number
            // of ways, - anything.
            String[] forms = {"v--", "vv-", "vvv", "vvv", "vvv", "vvv", "v--", "t--", "vt-", "vtn", "---"};
            if (op < 0 || op >= forms.length) {
                return GotoColour.BAD;
            }
            int[] numbers = {a, b, c};
            for (int k = 0; k < 3; k++) {
                char form = forms[op].charAt(k);
                int low = form == 'n' ? 1 : 0;
                int high = form == 'n' ? 4 : form == 'v' ? 7 : 31;
                if (form != '-' && (numbers[k] < low || numbers[k] > high)) {
                    return GotoColour.BAD;
                }
            }
            program.add(new int[] {op, a, b, c});
            return program.size();
        }

        int retract() {
            if (program.isEmpty()) {
                return GotoColour.BAD;
            }
            program.remove(program.size() - 1);
            return program.size();
        }

        boolean start(int v, int value) {
            if (v < 0 || v > 7) {
                return false;
            }
            starts[v] = value;
            return true;
        }

        int run(int fuel) {
            int[] now = starts.clone();
            output = new ArrayList<>();
            executed = 0;
            int next = 0;
            while (true) {
                if (next >= program.size()) {
                    return GotoColour.ENDED;
                }
                if (executed >= Math.max(0, Math.min(250, fuel))) {
                    return GotoColour.OUT_OF_FUEL;
                }
                next = step(now, next);
                executed++;
            }
        }

        private int step(int[] now, int i) {
            int[] p = program.get(i);
            int op = p[0];
            if (op == GotoColour.STOP) {
                return Integer.MAX_VALUE;
            }
            if (op == GotoColour.GOTO) {
                return p[1];
            }
            int first = now[p[1]];
            if (op == GotoColour.PRINT) {
                output.add(first);
            } else if (op == GotoColour.IFGOTO) {
                return first == 0 ? i + 1 : p[2];
            } else if (op == GotoColour.SWITCH) {
                return first < 0 || first >= p[3] ? i + 1 : p[2] + first;
            } else if (op == GotoColour.SET) {
                now[p[1]] = p[2];
            } else if (op == GotoColour.MOVE) {
                now[p[1]] = now[p[2]];
            } else {
                long l = now[p[2]];
                long r = now[p[3]];
                long[] results = {l + r, l - r, l * r, l < r ? 1 : 0};
                now[p[1]] = (int) results[op - GotoColour.ADD];
            }
            return i + 1;
        }

        int output(int k) {
            return k >= 0 && k < 32 && k < output.size() ? output.get(k) : 0;
        }

        int live(int i) {
            int set = 0;
            for (int v = 0; v < 8; v++) {
                if (isLive(i, v)) {
                    set |= 1 << v;
                }
            }
            return set;
        }

        boolean meet(int u, int v) {
            for (int i = 0; i < program.size(); i++) {
                if (isLive(i, u) && isLive(i, v)) {
                    return true;
                }
            }
            return false;
        }

        /** Goes forward from i along every list until one reads v or each has been stopped by a write. */
        private boolean isLive(int i, int v) {
            boolean[] seen = new boolean[program.size()];
            Deque<Integer> open = new ArrayDeque<>();
            open.add(i);
            while (!open.isEmpty()) {
                int at = open.remove();
                if (at < 0 || at >= program.size() || seen[at]) {
                    continue;
                }
                seen[at] = true;
                int[] p = program.get(at);
                if (reads(p, v)) {
                    return true;
                }
                if (p[0] > GotoColour.LESS || p[1] != v) {
                    open.addAll(after(at));
                }
            }
            return false;
        }

        private static boolean reads(int[] p, int v) {
            int op = p[0];
            boolean a = op == GotoColour.PRINT || op == GotoColour.IFGOTO || op == GotoColour.SWITCH;
            boolean b = op >= GotoColour.MOVE && op <= GotoColour.LESS;
            boolean c = op >= GotoColour.ADD && op <= GotoColour.LESS;
            return a && p[1] == v || b && p[2] == v || c && p[3] == v;
        }

        private List<Integer> after(int i) {
            int[] p = program.get(i);
            List<Integer> all = new ArrayList<>();
            if (p[0] == GotoColour.GOTO) {
                all.add(p[1]);
            } else if (p[0] != GotoColour.STOP) {
                all.add(i + 1);
            }
            if (p[0] == GotoColour.IFGOTO) {
                all.add(p[2]);
            }
            if (p[0] == GotoColour.SWITCH) {
                for (int way = 0; way < p[3]; way++) {
                    all.add(p[2] + way);
                }
            }
            return all;
        }
    }
}
