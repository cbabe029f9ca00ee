import java.util.ArrayList;
import java.util.List;
import java.util.Map;
import java.util.TreeMap;

/**
 * Runs of up to 512 mixed calls, from fixed seeds, on a WovenDebugger and on a second model of the
 * document that is written over lists and objects, so that a slip in one of them shows.
 */
public final class ModelTest {
    private static final int RUNS = 4000;
    private static final int CALLS = 512;
    private static final int[] WILD = {
        Integer.MIN_VALUE, Integer.MIN_VALUE + 1, -300, -4, -1, 19, 20, 21, 100, 101, 299, 300, 301,
        Integer.MAX_VALUE - 1, Integer.MAX_VALUE};

    private static long seed;
    private static int wrong = 0;

    public static void main(String[] args) {
        for (int run = 1; run <= RUNS && wrong == 0; run++) {
            seed = run * 7919L;
            compare(run);
        }
        System.out.println(wrong == 0 ? "the class and the model agree" : wrong + " answers differ");
        if (wrong != 0) {
            System.exit(1);
        }
    }

    private static void compare(int run) {
        WovenDebugger x = new WovenDebugger();
        Model model = new Model();
        int length = 1 + next(21);
        StringBuilder told = new StringBuilder();
        for (int call = 0; call < CALLS && wrong == 0; call++) {
            int which = call < length ? 0 : next(40);
            int[] given = arguments(which, length);
            int got = ask(x, which, given);
            int want = model.ask(which, given);
            told.append("  call ").append(which).append(java.util.Arrays.toString(given)).append(" -> ").append(got)
                .append('\n');
            String seen = look(x);
            String due = model.look();
            if (got != want || !seen.equals(due)) {
                wrong++;
                System.out.print(told);
                System.out.println("run " + run + ": due was " + want + "\n  seen " + seen + "\n  due  " + due);
            }
        }
    }

    private static int next(int bound) {
        seed = seed * 6364136223846793005L + 1442695040888963407L;
        return (int) ((seed >>> 33) % bound);
    }

    private static int wildOr(int usual) {
        return next(25) == 0 ? WILD[next(WILD.length)] : usual;
    }

    private static int[] arguments(int which, int length) {
        if (which == 0) {
            int op = next(30) == 0 ? wildOr(11) : next(11);
            return new int[] {op, wildOr(next(16)), op == 0 ? wildOr(next(4) - 1) : wildOr(next(length))};
        }
        if (which <= 3) {
            return new int[] {wildOr(next(length)), 0, 0};
        }
        if (which <= 8) {
            return new int[] {wildOr(next(length)), wildOr(next(4)), 0};
        }
        if (which <= 10) {
            return new int[] {wildOr(next(length)), 0, 0};
        }
        if (which <= 16) {
            return new int[] {wildOr(next(4)), wildOr(next(7) - 3), 0};
        }
        return new int[] {wildOr(next(12)), 0, 0};
    }

    private static int ask(WovenDebugger x, int which, int[] g) {
        if (which == 0) {
            return x.emit(g[0], g[1], g[2]);
        }
        if (which <= 3) {
            return x.start(g[0]);
        }
        if (which <= 8) {
            return x.setBreak(g[0], g[1]);
        }
        if (which <= 10) {
            return x.clearBreak(g[0]);
        }
        if (which <= 16) {
            return x.setLocal(g[0], g[1]);
        }
        switch (which % 4) {
            case 0: return x.resume(g[0]);
            case 1: return x.stepInto();
            case 2: return x.stepOver(g[0]);
            default: return x.stepOut(g[0]);
        }
    }

    /** All that the calls that change nothing answer. */
    private static String look(WovenDebugger x) {
        StringBuilder s = new StringBuilder();
        s.append(x.state()).append(" depth ").append(x.depth()).append(" outputs ").append(x.outputs());
        for (int level = -1; level <= 6; level++) {
            s.append(" | ").append(x.counter(level)).append(':');
            for (int i = -1; i <= 4; i++) {
                s.append(' ').append(x.local(level, i));
            }
        }
        s.append(" | out");
        for (int back = -1; back <= 8; back++) {
            s.append(' ').append(x.output(back));
        }
        s.append(" | skips");
        for (int p = -1; p <= 20; p++) {
            s.append(' ').append(x.skip(p));
        }
        return s.toString();
    }

    private static final class Frame {
        int counter;
        int named;
        final int[] locals = new int[4];
    }

    private static final class Model {
        final List<int[]> program = new ArrayList<>();
        final Map<Integer, Integer> breaks = new TreeMap<>();
        final List<Frame> frames = new ArrayList<>();
        final List<Integer> output = new ArrayList<>();
        int state = 0;

        int ask(int which, int[] g) {
            if (which == 0) {
                return emit(g);
            }
            boolean known = g[0] >= 0 && g[0] < program.size();
            if (which <= 3) {
                return known ? start(g[0]) : -3;
            }
            if (which <= 8) {
                return known ? setBreak(g[0], g[1]) : -3;
            }
            if (which <= 10) {
                return breaks.remove(g[0]) == null ? -3 : breaks.size();
            }
            if (which <= 16) {
                return setLocal(g[0], g[1]);
            }
            return command(which % 4, Math.max(1, Math.min(300, g[0])));
        }

        int emit(int[] g) {
            if (g[0] < 0 || g[0] > 10) {
                return -1;
            }
            if (program.size() == 20) {
                return -2;
            }
            if (state != 0) {
                return -3;
            }
            program.add(g.clone());
            return program.size() - 1;
        }

        int start(int p) {
            frames.clear();
            frames.add(new Frame());
            top().counter = p;
            output.clear();
            state = 1;
            return 0;
        }

        int setBreak(int p, int skip) {
            if (skip < 0 || skip > 100) {
                return -1;
            }
            breaks.put(p, skip);
            return breaks.size();
        }

        int setLocal(int i, int value) {
            if (frames.isEmpty()) {
                return -4;
            }
            if (i < 0 || i > 3) {
                return -3;
            }
            top().locals[i] = value;
            return 0;
        }

        Frame top() {
            return frames.get(frames.size() - 1);
        }

        int command(int kind, int max) {
            if (state == 0 || state >= 5) {
                return -4;
            }
            int before = frames.size();
            int done = 0;
            while (true) {
                int end = carryOut();
                done++;
                int now = frames.size();
                boolean goal = kind == 1 || kind == 2 && now <= before || kind == 3 && now < before;
                if (end != 0) {
                    state = end;
                    return done;
                }
                if (goal) {
                    state = 2;
                    return done;
                }
                Integer skip = breaks.get(top().counter);
                if (skip != null && skip == 0) {
                    state = 3;
                    return done;
                }
                if (skip != null) {
                    breaks.put(top().counter, skip - 1);
                }
                if (done == max) {
                    state = 4;
                    return done;
                }
            }
        }

        /** 0 if the machine goes on, else the state that it ends in. */
        int carryOut() {
            Frame f = top();
            int[] row = program.get(f.counter);
            int[] l = f.locals;
            int a = row[1] & 3;
            int b = row[2];
            int other = b & 3;
            f.counter++;
            switch (row[0]) {
                case 0 -> l[a] = b;
                case 1 -> l[a] = l[other];
                case 2 -> l[a] = l[a] + l[other];
                case 3 -> l[a] = l[a] - l[other];
                case 4 -> l[a] = l[a] * l[other];
                case 5 -> f.counter = b;
                case 6 -> f.counter = l[a] < l[row[1] >> 2 & 3] ? b : f.counter;
                case 7 -> f.counter = l[a] == 0 ? b : f.counter;
                case 8 -> {
                    if (frames.size() == 6) {
                        f.counter--;
                        return 6;
                    }
                    Frame callee = new Frame();
                    callee.locals[0] = l[a];
                    callee.counter = b;
                    f.named = a;
                    frames.add(callee);
                }
                case 9 -> {
                    if (frames.size() == 1) {
                        f.counter--;
                        return 5;
                    }
                    frames.remove(frames.size() - 1);
                    top().locals[top().named] = l[0];
                }
                default -> output.add(l[a]);
            }
            return top().counter >= 0 && top().counter < program.size() ? 0 : 6;
        }

        String look() {
            StringBuilder s = new StringBuilder();
            s.append(state).append(" depth ").append(frames.size()).append(" outputs ").append(output.size());
            for (int level = -1; level <= 6; level++) {
                boolean stands = level >= 0 && level < frames.size();
                Frame f = stands ? frames.get(frames.size() - 1 - level) : null;
                s.append(" | ").append(stands ? f.counter : -3).append(':');
                for (int i = -1; i <= 4; i++) {
                    s.append(' ').append(stands && i >= 0 && i < 4 ? f.locals[i] : 0);
                }
            }
            s.append(" | out");
            for (int back = -1; back <= 8; back++) {
                boolean kept = back >= 0 && back <= 7 && back < output.size();
                s.append(' ').append(kept ? output.get(output.size() - 1 - back) : 0);
            }
            s.append(" | skips");
            for (int p = -1; p <= 20; p++) {
                s.append(' ').append(breaks.getOrDefault(p, -3));
            }
            return s.toString();
        }
    }
}
