/** What the tests share: the names of the operations, ready programs, and the telling of a wrong answer. */
abstract class Checks {
    static final int SET = 0;
    static final int MOVE = 1;
    static final int ADD = 2;
    static final int SUB = 3;
    static final int MUL = 4;
    static final int JUMP = 5;
    static final int JLESS = 6;
    static final int JZERO = 7;
    static final int CALL = 8;
    static final int RETURN = 9;
    static final int OUT = 10;
    static final int MIN = Integer.MIN_VALUE;
    static final int MAX = Integer.MAX_VALUE;

    private static final long MOST_MILLISECONDS = 300_000;

    private static int wrong = 0;

    // A call that does not end would hold up all the tests instead of failing one.
    static {
        Thread watch = new Thread(Checks::haltLater);
        watch.setDaemon(true);
        watch.start();
    }

    private static void haltLater() {
        try {
            Thread.sleep(MOST_MILLISECONDS);
        } catch (InterruptedException e) {
            return;
        }
        System.out.println("a call does not end");
        Runtime.getRuntime().halt(1);
    }

    static void due(String what, int got, int want) {
        due(what, Integer.toString(got), Integer.toString(want));
    }

    static void due(String what, String got, String want) {
        if (!got.equals(want)) {
            wrong++;
            System.out.println(what + " answered " + got + ", due is " + want);
        }
    }

    /** Ends the test, with exit code 1 if an answer was not as due. */
    static void finish() {
        if (wrong != 0) {
            System.out.println(wrong + " answers are not as due");
            System.exit(1);
        }
        System.out.println("all answers are as due");
    }

    /** An object with a program of rows of op, a and b; not started. */
    static WovenDebugger program(int... rows) {
        WovenDebugger x = new WovenDebugger();
        for (int i = 0; i < rows.length; i += 3) {
            due("emit of row " + i / 3, x.emit(rows[i], rows[i + 1], rows[i + 2]), i / 3);
        }
        return x;
    }

    static WovenDebugger started(int... rows) {
        WovenDebugger x = program(rows);
        due("start(0)", x.start(0), 0);
        return x;
    }

    static void setLocals(WovenDebugger x, int... values) {
        for (int i = 0; i < 4; i++) {
            due("setLocal(" + i + ", " + values[i] + ")", x.setLocal(i, values[i]), 0);
        }
    }

    static void dueLocals(String what, WovenDebugger x, int level, int... want) {
        for (int i = 0; i < 4; i++) {
            due(what + ": local(" + level + ", " + i + ")", x.local(level, i), want[i]);
        }
    }

    static void dueAt(String what, WovenDebugger x, int state, int depth, int counter) {
        due(what + ": state", x.state(), state);
        due(what + ": depth", x.depth(), depth);
        due(what + ": counter", x.counter(0), counter);
    }

    /** All that the calls that change nothing answer, but for the state: 65 calls. */
    static String look(WovenDebugger x) {
        StringBuilder s = new StringBuilder();
        s.append("depth ").append(x.depth()).append(" outputs ").append(x.outputs());
        for (int level = 0; level < 7; level++) {
            s.append(" | ").append(x.counter(level)).append(':');
            for (int i = 0; i < 4; i++) {
                s.append(' ').append(x.local(level, i));
            }
        }
        s.append(" | out");
        for (int back = 0; back < 8; back++) {
            s.append(' ').append(x.output(back));
        }
        s.append(" | skips");
        for (int p = 0; p < 20; p++) {
            s.append(' ').append(x.skip(p));
        }
        return s.toString();
    }
}
