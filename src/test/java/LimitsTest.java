/** The limits of the calls' numbers: max, skip counts, levels, locals, 'back', and the 512 calls of an object. */
public final class LimitsTest extends Checks {
    private static final int[] MAXES = {
        MIN, MIN + 1, -301, -300, -1, 0, 1, 2, 3, 150, 255, 256, 257, 299, 300, 301, 302, 600, 65536, 65537, MAX};

    public static void main(String[] args) {
        maxOfResume();
        maxOfStepOver();
        maxOfStepOut();
        stepIntoIsOneAtMost();
        theThreeHundredthMayBeTheEnd();
        theThreeHundredthMayReachTheGoal();
        theThreeHundredthMayMeetABreak();
        levels();
        localsOfALevel();
        emptyOutput();
        outputOfEachLength();
        outputIsOfThisStart();
        skipCountsOfAllPlaces();
        emitsUpToTheEnd();
        commandsUpToTheEnd();
        stepsUpToTheEnd();
        startsUpToTheEnd();
        breaksUpToTheEnd();
        finish();
    }

    private static int counted(int max) {
        return Math.max(1, Math.min(300, max));
    }

    // "max below 1 counts as 1, above 300 as 300"
    private static void maxOfResume() {
        for (int max : MAXES) {
            WovenDebugger x = started(JUMP, 0, 1, ADD, 0, 1, JUMP, 0, 1);
            x.setLocal(1, 1);
            due("resume(" + max + ")", x.resume(max), counted(max));
            due("resume(" + max + "): state", x.state(), WovenDebugger.PAUSED);
            due("resume(" + max + "): what was carried out", x.local(0, 0), counted(max) / 2);
        }
    }

    private static void maxOfStepOver() {
        for (int max : MAXES) {
            WovenDebugger x = started(CALL, 1, 1, ADD, 1, 0, JUMP, 0, 1);
            x.setLocal(1, 1);
            due("stepOver(" + max + ")", x.stepOver(max), counted(max));
            due("stepOver(" + max + "): state", x.state(), WovenDebugger.PAUSED);
            due("stepOver(" + max + "): what was carried out", x.local(0, 1), counted(max) / 2);
        }
    }

    private static void maxOfStepOut() {
        for (int max : MAXES) {
            WovenDebugger x = started(CALL, 1, 1, JUMP, 0, 2, ADD, 1, 0, JUMP, 0, 2);
            x.setLocal(1, 1);
            x.stepInto();
            due("stepOut(" + max + ")", x.stepOut(max), counted(max));
            due("stepOut(" + max + "): state", x.state(), WovenDebugger.PAUSED);
            due("stepOut(" + max + "): what was carried out", x.local(0, 1), counted(max) / 2);
        }
    }

    private static void stepIntoIsOneAtMost() {
        WovenDebugger x = started(ADD, 0, 1, JUMP, 0, 0);
        x.setLocal(1, 1);
        for (int i = 1; i <= 100; i++) {
            due("stepInto number " + i, x.stepInto(), 1);
            dueAt("stepInto number " + i, x, WovenDebugger.STEPPED, 1, i % 2);
            due("stepInto number " + i + ": what was carried out", x.local(0, 0), (i + 1) / 2);
        }
    }

    /** SET, three instructions for each of n rounds, the JZERO that leaves the loop, RETURN: 3 * n + 3. */
    private static WovenDebugger countdown(int n) {
        WovenDebugger x = started(SET, 1, 1, JZERO, 0, 4, SUB, 0, 1, JUMP, 0, 1, RETURN, 0, 0);
        x.setLocal(0, n);
        return x;
    }

    private static void theThreeHundredthMayBeTheEnd() {
        WovenDebugger x = countdown(99);
        due("exit as the 300th", x.resume(300), 300);
        dueAt("exit as the 300th", x, WovenDebugger.EXITED, 1, 4);
        WovenDebugger y = countdown(99);
        due("exit as the 300th of 299", y.resume(299), 299);
        dueAt("exit as the 300th of 299", y, WovenDebugger.PAUSED, 1, 4);
        WovenDebugger z = countdown(100);
        due("exit as the 303rd", z.resume(MAX), 300);
        dueAt("exit as the 303rd", z, WovenDebugger.PAUSED, 1, 3);
        due("the rest", z.resume(MAX), 3);
        dueAt("the rest", z, WovenDebugger.EXITED, 1, 4);
    }

    private static void theThreeHundredthMayReachTheGoal() {
        WovenDebugger x = started(SET, 1, 1, JZERO, 0, 4, SUB, 0, 1, JUMP, 0, 1, RETURN, 0, 0, CALL, 0, 0, CALL, 0, 8,
            RETURN, 0, 0, OUT, 0, 0, JUMP, 0, 0);
        for (int max : new int[] {299, 300, 301, MAX}) {
            int state = max < 300 ? WovenDebugger.PAUSED : WovenDebugger.STEPPED;
            x.start(5);
            x.setLocal(0, 99);
            x.stepInto();
            due("stepOut(" + max + ")", x.stepOut(max), Math.min(max, 300));
            due("stepOut(" + max + "): state", x.state(), state);
            // CALL, OUT and JUMP, then the loop: 3 * n + 6
            x.start(6);
            x.setLocal(0, 98);
            due("stepOver(" + max + ")", x.stepOver(max), Math.min(max, 300));
            due("stepOver(" + max + "): state", x.state(), state);
        }
    }

    private static void theThreeHundredthMayMeetABreak() {
        WovenDebugger x = started(OUT, 0, 0, JUMP, 0, 0);
        x.setBreak(0, 100);
        due("skip a hundred times", x.resume(200), 200);
        dueAt("skip a hundred times", x, WovenDebugger.PAUSED, 1, 0);
        due("skip a hundred times: skip", x.skip(0), 0);
        x.setBreak(0, 100);
        x.start(1);
        due("a hundred and the stop", x.resume(300), 201);
        dueAt("a hundred and the stop", x, WovenDebugger.AT_BREAK, 1, 0);
        WovenDebugger y = started(OUT, 0, 0, OUT, 0, 0, JUMP, 0, 0);
        y.setBreak(0, 99);
        due("the break as the 300th", y.resume(300), 300);
        dueAt("the break as the 300th", y, WovenDebugger.AT_BREAK, 1, 0);
        y.setBreak(0, 100);
        due("the skip as the 300th", y.resume(300), 300);
        dueAt("the skip as the 300th", y, WovenDebugger.PAUSED, 1, 0);
        due("the skip as the 300th: skip", y.skip(0), 0);
    }

    // "The counter of the frame 'level' below the current one ...; BAD_PLACE if there is no such frame."
    private static void levels() {
        WovenDebugger x = program(CALL, 0, 2, RETURN, 0, 0, CALL, 0, 4, RETURN, 0, 0, CALL, 0, 6, RETURN, 0, 0,
            CALL, 0, 8, RETURN, 0, 0, CALL, 0, 10, RETURN, 0, 0, RETURN, 0, 0);
        dueLevels("no frame", x, 0);
        x.start(0);
        for (int depth = 1; depth <= 6; depth++) {
            due("depth", x.depth(), depth);
            dueLevels("depth " + depth, x, depth);
            x.stepInto();
        }
        due("depth after a return", x.depth(), 5);
        due("counter(0) after a return", x.counter(0), 9);
        due("counter(4) after a return", x.counter(4), 1);
        due("counter(5) after a return", x.counter(5), WovenDebugger.BAD_PLACE);
    }

    private static void dueLevels(String what, WovenDebugger x, int depth) {
        for (int level : new int[] {MIN, MIN + 1, MIN + 6, -7, -6, -2, -1, 0, 1, 2, 3, 4, 5, 6, 7, 256, MAX - 1, MAX}) {
            int goesOn = 2 * (depth - 1 - level) + (level == 0 ? 0 : 1);
            boolean stands = level >= 0 && level < depth;
            due(what + ": counter(" + level + ")", x.counter(level), stands ? goesOn : WovenDebugger.BAD_PLACE);
        }
    }

    // "A local of the frame 'level' below the current one; 0 if there is no such frame or i not in 0 to 3."
    private static void localsOfALevel() {
        int[] wild = {MIN, MIN + 1, -24, -5, -4, -1, 0, 1, 2, 3, 4, 5, 6, 7, 23, 24, 256, MAX - 1, MAX};
        for (int depth = 0; depth <= 6; depth++) {
            WovenDebugger x = program(CALL, 0, 0, RETURN, 0, 0);
            for (int k = 1; k <= depth; k++) {
                due("the way to depth " + k, k == 1 ? x.start(0) : x.stepInto(), k == 1 ? 0 : 1);
                setLocals(x, 10 * k + 1, 10 * k + 2, 10 * k + 3, 10 * k + 4);
            }
            for (int level : wild) {
                for (int i : wild) {
                    boolean stands = level >= 0 && level < depth && i >= 0 && i <= 3;
                    due("depth " + depth + ": local(" + level + ", " + i + ")", x.local(level, i),
                        stands ? 10 * (depth - level) + i + 1 : 0);
                }
            }
        }
    }

    // "back 0 to 7; 0 if there is none"
    private static void emptyOutput() {
        dueOutput("a new object", new WovenDebugger(), 0, 0);
        dueOutput("a program", program(OUT, 0, 0), 0, 0);
        dueOutput("a start", started(OUT, 0, 0), 0, 0);
    }

    private static void dueOutput(String what, WovenDebugger x, int length, int last) {
        due(what + ": outputs", x.outputs(), length);
        for (int back : new int[] {MIN, MIN + 1, -9, -8, -7, -1, 0, 1, 2, 3, 4, 5, 6, 7, 8, 9, 15, 16, 256, MAX - 1, MAX}) {
            boolean stands = back >= 0 && back <= 7 && back < length;
            due(what + ": output(" + back + ")", x.output(back), stands ? last - back : 0);
        }
    }

    private static void outputOfEachLength() {
        WovenDebugger x = null;
        for (int length = 1; length <= 40; length++) {
            if (length % 10 == 1) {
                x = started(ADD, 0, 1, OUT, 0, 0, JUMP, 0, 0);
                x.setLocal(0, 500);
                x.setLocal(1, 1);
                x.resume(3 * (length - 1));
            }
            due("up to length " + length, x.resume(3), 3);
            dueOutput("length " + length, x, length, 500 + length);
        }
    }

    // "How many values the output has since the start."
    private static void outputIsOfThisStart() {
        WovenDebugger x = started(ADD, 0, 1, OUT, 0, 0, JUMP, 0, 0);
        for (int round = 0; round < 3; round++) {
            x.start(0);
            dueOutput("round " + round, x, 0, 0);
            x.setLocal(0, 100 * round + 50);
            x.setLocal(1, 1);
            int length = 9 - 3 * round;
            x.resume(3 * length);
            dueOutput("round " + round, x, length, 100 * round + 50 + length);
        }
    }

    // "skip not in 0 to 100: BAD_OP"
    private static void skipCountsOfAllPlaces() {
        WovenDebugger x = new WovenDebugger();
        for (int p = 0; p < 20; p++) {
            x.emit(RETURN, 0, 0);
        }
        for (int p = 0; p < 20; p++) {
            due("setBreak(" + p + ", 0)", x.setBreak(p, 0), p + 1);
            due("setBreak(" + p + ", -1)", x.setBreak(p, -1), WovenDebugger.BAD_OP);
            due("setBreak(" + p + ", 101)", x.setBreak(p, 101), WovenDebugger.BAD_OP);
            due("skip(" + p + ") of 0", x.skip(p), 0);
            due("setBreak(" + p + ", 100)", x.setBreak(p, 100), p + 1);
            due("skip(" + p + ") of 100", x.skip(p), 100);
            due("setBreak(" + p + ", other)", x.setBreak(p, 5 * p), p + 1);
        }
        for (int p = 0; p < 20; p++) {
            due("skip(" + p + ")", x.skip(p), 5 * p);
            due("clearBreak(" + p + ")", x.clearBreak(p), 19 - p);
            due("skip(" + p + ") after it", x.skip(p), WovenDebugger.BAD_PLACE);
        }
        for (int skip = 0; skip <= 100; skip++) {
            due("setBreak(19, " + skip + ")", x.setBreak(19, skip), 1);
            due("skip(19) of " + skip, x.skip(19), skip);
        }
    }

    // "An object is used for at most 512 calls after it has been made": each of these makes just as many.
    private static void emitsUpToTheEnd() {
        WovenDebugger x = new WovenDebugger();
        for (int call = 1; call <= 512; call++) {
            due("emit as call " + call, x.emit(call % 11, call, -call), call <= 20 ? call - 1 : WovenDebugger.FULL);
        }
    }

    private static void commandsUpToTheEnd() {
        WovenDebugger x = new WovenDebugger();
        for (int call = 1; call <= 19; call++) {
            due("OUT as call " + call, x.emit(OUT, 0, 0), call - 1);
        }
        due("JUMP as call 20", x.emit(JUMP, 0, 0), 19);
        due("start as call 21", x.start(0), 0);
        for (int call = 22; call <= 511; call++) {
            due("resume as call " + call, x.resume(300), 300);
        }
        // 19 outputs in each 20 instructions
        due("outputs as call 512", x.outputs(), 490 * 300 / 20 * 19);
    }

    private static void stepsUpToTheEnd() {
        WovenDebugger x = new WovenDebugger();
        due("ADD as call 1", x.emit(ADD, 0, 1), 0);
        due("OUT as call 2", x.emit(OUT, 0, 0), 1);
        due("JUMP as call 3", x.emit(JUMP, 0, 0), 2);
        due("start as call 4", x.start(0), 0);
        due("setLocal as call 5", x.setLocal(1, 2), 0);
        for (int call = 6; call <= 511; call++) {
            due("stepInto as call " + call, x.stepInto(), 1);
        }
        // 506 steps: 169 outputs of 2, 4, 6, ...
        due("output(7) as call 512", x.output(7), 2 * (169 - 7));
    }

    private static void startsUpToTheEnd() {
        WovenDebugger x = new WovenDebugger();
        due("RETURN as call 1", x.emit(RETURN, 0, 0), 0);
        due("CALL as call 2", x.emit(CALL, 0, 1), 1);
        for (int call = 3; call <= 510; call += 2) {
            boolean exits = call % 4 == 3;
            due("start as call " + call, x.start(exits ? 0 : 1), 0);
            due("resume as call " + (call + 1), x.resume(300), exits ? 1 : 6);
        }
        due("depth as call 511", x.depth(), 6);
        due("state as call 512", x.state(), WovenDebugger.FAULTED);
    }

    private static void breaksUpToTheEnd() {
        WovenDebugger x = new WovenDebugger();
        due("RETURN as call 1", x.emit(RETURN, 0, 0), 0);
        due("RETURN as call 2", x.emit(RETURN, 0, 0), 1);
        for (int call = 3; call <= 511; call += 3) {
            due("setBreak as call " + call, x.setBreak(0, call % 101), 1);
            due("setBreak as call " + (call + 1), x.setBreak(1, 1), 2);
            due("clearBreak as call " + (call + 2), x.clearBreak(1), 1);
        }
    }
}
