import java.util.ArrayList;
import java.util.Arrays;
import java.util.List;
import java.util.Map;
import java.util.TreeMap;

/**
 * Runs of 512 mixed calls, from fixed seeds, on a WovenDebugger and on a second model of the document
 * that is written over lists and objects, so that a slip in one of them shows. No object is used
 * for more calls, since what later ones answer is free.
 */
public final class ModelTest extends Checks {
    private static final int RUNS = 12000;
    private static final int CALLS = 512;
    private static final int FIRST_LOOK = 9;
    private static final String[] NAMES = {
        "emit", "start", "setBreak", "clearBreak", "resume", "stepInto", "stepOver", "stepOut", "setLocal",
        "state", "depth", "counter", "local", "outputs", "output", "skip"};
    // How often each of the calls that change something comes, once the program has been emitted
    private static final int[] WEIGHTS = {1, 3, 5, 2, 6, 6, 6, 6, 5};
    private static final int[] WILD = {
        MIN, MIN + 1, -300, -4, -1, 7, 8, 19, 20, 21, 99, 100, 101, 299, 300, 301, MAX - 1, MAX};

    private static long seed;
    private static boolean agrees = true;

    public static void main(String[] args) {
        for (int run = 1; run <= RUNS && agrees; run++) {
            seed = run * 7919L;
            compare(run);
        }
        finish();
    }

    private static void compare(int run) {
        WovenDebugger x = new WovenDebugger();
        Model model = new Model();
        int length = 1 + next(21);
        int looksOfTen = run % 3 == 0 ? 1 : 8;
        StringBuilder told = new StringBuilder();
        for (int call = 0; call < CALLS && agrees; call++) {
            int kind = call < length ? 0 : next(10) < looksOfTen ? FIRST_LOOK + next(7) : weighted();
            int[] given = arguments(kind, length);
            int got = ask(x, kind, given);
            int want = model.ask(kind, given);
            told.append("  ").append(NAMES[kind]).append(Arrays.toString(given)).append(" -> ").append(got).append('\n');
            if (got != want) {
                agrees = false;
                System.out.print(told);
                due("run " + run + ": the last call", got, want);
            }
        }
    }

    private static int next(int bound) {
        seed = seed * 6364136223846793005L + 1442695040888963407L;
        return (int) ((seed >>> 33) % bound);
    }

    private static int weighted() {
        int left = next(Arrays.stream(WEIGHTS).sum());
        int kind = 0;
        while (left >= WEIGHTS[kind]) {
            left -= WEIGHTS[kind];
            kind++;
        }
        return kind;
    }

    private static int wildOr(int usual) {
        return next(25) == 0 ? WILD[next(WILD.length)] : usual;
    }

    private static int[] arguments(int kind, int length) {
        switch (kind) {
            case 0:
                int op = next(30) == 0 ? wildOr(11) : next(11);
                return new int[] {op, wildOr(next(16)), op == 0 ? wildOr(next(4) - 1) : wildOr(next(length))};
            case 2:
                return new int[] {wildOr(next(length)), wildOr(next(4))};
            case 1: case 3: case 15:
                return new int[] {wildOr(next(length))};
            case 8:
                return new int[] {wildOr(next(4)), wildOr(next(7) - 3)};
            case 12:
                return new int[] {wildOr(next(3)), wildOr(next(4))};
            case 11: case 14:
                return new int[] {wildOr(next(9))};
            default:
                return new int[] {wildOr(next(12))};
        }
    }

    private static int ask(WovenDebugger x, int kind, int[] g) {
        switch (kind) {
            case 0: return x.emit(g[0], g[1], g[2]);
            case 1: return x.start(g[0]);
            case 2: return x.setBreak(g[0], g[1]);
            case 3: return x.clearBreak(g[0]);
            case 4: return x.resume(g[0]);
            case 5: return x.stepInto();
            case 6: return x.stepOver(g[0]);
            case 7: return x.stepOut(g[0]);
            case 8: return x.setLocal(g[0], g[1]);
            case 9: return x.state();
            case 10: return x.depth();
            case 11: return x.counter(g[0]);
            case 12: return x.local(g[0], g[1]);
            case 13: return x.outputs();
            case 14: return x.output(g[0]);
            default: return x.skip(g[0]);
        }
    }

    private static final class Frame {
        int counter;
        int named;
        final int[] locals = new int[4];
    }

    private static final class Model {
        final List<int[]> program = new ArrayList<>();
        final Map<Integer, Integer> breaks = new TreeMap<>();
        final List<Frame> frames = new ArrayList<>();
        final List<Integer> output = new ArrayList<>();
        int state = 0;

        int ask(int kind, int[] g) {
            boolean known = g[0] >= 0 && g[0] < program.size();
            switch (kind) {
                case 0: return emit(g);
                case 1: return known ? start(g[0]) : -3;
                case 2: return known ? setBreak(g[0], g[1]) : -3;
                case 3: return breaks.remove(g[0]) == null ? -3 : breaks.size();
                case 4: case 5: case 6: case 7: return command(kind, Math.max(1, Math.min(300, g[0])));
                case 8: return setLocal(g[0], g[1]);
                case 9: return state;
                case 10: return frames.size();
                case 11: return stands(g[0]) ? frames.get(frames.size() - 1 - g[0]).counter : -3;
                case 12: return stands(g[0]) && isLocal(g[1]) ? frames.get(frames.size() - 1 - g[0]).locals[g[1]] : 0;
                case 13: return output.size();
                case 14: return isKept(g[0]) ? output.get(output.size() - 1 - g[0]) : 0;
                default: return breaks.getOrDefault(g[0], -3);
            }
        }

        boolean stands(int level) {
            return level >= 0 && level < frames.size();
        }

        boolean isLocal(int i) {
            return i >= 0 && i <= 3;
        }

        boolean isKept(int back) {
            return back >= 0 && back <= 7 && back < output.size();
        }

        int emit(int[] g) {
            if (g[0] < 0 || g[0] > 10) {
                return -1;
            }
            if (program.size() == 20) {
                return -2;
            }
            if (state != 0) {
                return -3;
            }
            program.add(g.clone());
            return program.size() - 1;
        }

        int start(int p) {
            frames.clear();
            frames.add(new Frame());
            top().counter = p;
            output.clear();
            state = 1;
            return 0;
        }

        int setBreak(int p, int skip) {
            if (skip < 0 || skip > 100) {
                return -1;
            }
            breaks.put(p, skip);
            return breaks.size();
        }

        int setLocal(int i, int value) {
            if (frames.isEmpty()) {
                return -4;
            }
            if (!isLocal(i)) {
                return -3;
            }
            top().locals[i] = value;
            return 0;
        }

        Frame top() {
            return frames.get(frames.size() - 1);
        }

        int command(int kind, int max) {
            if (state == 0 || state >= 5) {
                return -4;
            }
            int before = frames.size();
            int done = 0;
            while (true) {
                int end = carryOut();
                done++;
                int now = frames.size();
                boolean goal = kind == 5 || kind == 6 && now <= before || kind == 7 && now < before;
                if (end != 0) {
                    state = end;
                    return done;
                }
                if (goal) {
                    state = 2;
                    return done;
                }
                Integer skip = breaks.get(top().counter);
                if (skip != null && skip == 0) {
                    state = 3;
                    return done;
                }
                if (skip != null) {
                    breaks.put(top().counter, skip - 1);
                }
                if (done == max) {
                    state = 4;
                    return done;
                }
            }
        }

        /** 0 if the machine goes on, else the state that it ends in. */
        int carryOut() {
            Frame f = top();
            int[] row = program.get(f.counter);
            int[] l = f.locals;
            int a = row[1] & 3;
            int b = row[2];
            int other = b & 3;
            f.counter++;
            switch (row[0]) {
                case 0 -> l[a] = b;
                case 1 -> l[a] = l[other];
                case 2 -> l[a] = l[a] + l[other];
                case 3 -> l[a] = l[a] - l[other];
                case 4 -> l[a] = l[a] * l[other];
                case 5 -> f.counter = b;
                case 6 -> f.counter = l[a] < l[row[1] >> 2 & 3] ? b : f.counter;
                case 7 -> f.counter = l[a] == 0 ? b : f.counter;
                case 8 -> {
                    if (frames.size() == 6) {
                        f.counter--;
                        return 6;
                    }
                    Frame callee = new Frame();
                    callee.locals[0] = l[a];
                    callee.counter = b;
                    f.named = a;
                    frames.add(callee);
                }
                case 9 -> {
                    if (frames.size() == 1) {
                        f.counter--;
                        return 5;
                    }
                    frames.remove(frames.size() - 1);
                    top().locals[top().named] = l[0];
                }
                default -> output.add(l[a]);
            }
            return top().counter >= 0 && top().counter < program.size() ? 0 : 6;
        }
    }
}
