/** The section "Terms": the program, the frames, the locals and each instruction, at their edges. */
public final class MachineTest extends Checks {
    private static final int[] NUMBERS = {
        MIN, MIN + 1, MIN + 2, MIN + 3, -1000001, -9, -8, -7, -6, -5, -4, -3, -2, -1, 0, 1, 2, 3, 4, 5, 6, 7, 8, 9,
        12, 13, 14, 15, 16, 17, 1000003, MAX - 3, MAX - 2, MAX - 1, MAX};

    public static void main(String[] args) {
        twentyInstructions();
        oneInstruction();
        sixFrames();
        aSeventhFrame();
        aSeventhFrameOutsideTheProgram();
        eachCallHasItsOwnResultLocal();
        aNewFrameIsClean();
        localsWrap();
        computingNamesLocalsByTwoBits();
        setTakesAnyInt();
        outNamesItsLocalByTwoBits();
        jumpingNamesLocalsByTwoBits();
        callNamesItsLocalByTwoBits();
        numbersThatMeanNothing();
        lessOfFarNumbers();
        zeroAlone();
        returnOfTheOnlyFrame();
        goingOutside();
        goingOnFromTheLast();
        aJumpNotTakenFromTheLast();
        returningOutside();
        insideIsNoFault();
        finish();
    }

    // "A PROGRAM is a list of at most 20 INSTRUCTIONS, numbered from 0."
    private static void twentyInstructions() {
        WovenDebugger x = new WovenDebugger();
        for (int i = 0; i < 19; i++) {
            due("emit number " + i, x.emit(JUMP, 0, 19), i);
        }
        due("emit number 19", x.emit(RETURN, 0, 0), 19);
        due("emit number 20", x.emit(RETURN, 0, 0), WovenDebugger.FULL);
        for (int i = 0; i < 20; i++) {
            due("start(" + i + ")", x.start(i), 0);
            due("resume from " + i, x.resume(300), i < 19 ? 2 : 1);
            dueAt("resume from " + i, x, WovenDebugger.EXITED, 1, 19);
            due("setBreak(" + i + ")", x.setBreak(i, i), i + 1);
        }
        for (int i = 0; i < 20; i++) {
            due("skip(" + i + ")", x.skip(i), i);
        }
        due("start(20)", x.start(20), WovenDebugger.BAD_PLACE);
        due("setBreak(20, 0)", x.setBreak(20, 0), WovenDebugger.BAD_PLACE);
        due("clearBreak(20)", x.clearBreak(20), WovenDebugger.BAD_PLACE);
        due("skip(20)", x.skip(20), WovenDebugger.BAD_PLACE);
    }

    private static void oneInstruction() {
        WovenDebugger x = program(OUT, 0, 0);
        due("of one: start(1)", x.start(1), WovenDebugger.BAD_PLACE);
        due("of one: setBreak(1, 0)", x.setBreak(1, 0), WovenDebugger.BAD_PLACE);
        due("of one: start(0)", x.start(0), 0);
        due("of one: resume", x.resume(300), 1);
        dueAt("of one", x, WovenDebugger.FAULTED, 1, 1);
    }

    // "At most six frames stand at once."
    private static void sixFrames() {
        WovenDebugger x = started(CALL, 0, 0, RETURN, 0, 0);
        for (int depth = 2; depth <= 6; depth++) {
            due("call to depth " + depth, x.stepInto(), 1);
            dueAt("call to depth " + depth, x, WovenDebugger.STEPPED, depth, 0);
            for (int level = 1; level < depth; level++) {
                due("counter(" + level + ") at depth " + depth, x.counter(level), 1);
            }
            due("counter(" + depth + ") at that depth", x.counter(depth), WovenDebugger.BAD_PLACE);
        }
    }

    // "But if six frames stand, nothing of this happens and the machine FAULTS"
    private static void aSeventhFrame() {
        WovenDebugger x = started(OUT, 1, 0, CALL, 1, 0, RETURN, 0, 0);
        for (int depth = 1; depth < 6; depth++) {
            setLocals(x, depth, 10 * depth, -depth, MIN + depth);
            due("OUT and CALL", x.resume(2), 2);
        }
        setLocals(x, 6, 60, -6, MIN + 6);
        due("OUT", x.resume(1), 1);
        String before = look(x);
        due("the sixth CALL counts as carried out", x.resume(300), 1);
        dueAt("the sixth CALL", x, WovenDebugger.FAULTED, 6, 1);
        due("the sixth CALL: the rest", look(x), before);
        due("nothing runs after it", x.resume(300), WovenDebugger.NOT_RUNNING);
    }

    private static void aSeventhFrameOutsideTheProgram() {
        for (int target : new int[] {3, 99, -1, MIN, MAX}) {
            WovenDebugger x = started(JZERO, 3, 2, CALL, 0, target, CALL, 0, 0);
            due("five calls", x.resume(10), 10);
            due("L[3] leads to the other CALL", x.setLocal(3, 1), 0);
            due("JZERO not taken", x.stepInto(), 1);
            String before = look(x);
            due("a sixth CALL to " + target, x.stepInto(), 1);
            dueAt("a sixth CALL to " + target, x, WovenDebugger.FAULTED, 6, 1);
            due("a sixth CALL to " + target + ": the rest", look(x), before);
        }
    }

    // "its local that the CALL named as a gets the value of the L[0] of the one that went"
    private static void eachCallHasItsOwnResultLocal() {
        int[] named = {1, 2, 3, 0, 3};
        WovenDebugger x = started(CALL, 1, 2, RETURN, 1, 1, CALL, 2, 4, RETURN, 2, 2, CALL, 3, 6, RETURN, 3, 3,
            CALL, 4, 8, RETURN, 1, 0, CALL, -1, 10, RETURN, 2, 1, RETURN, 3, 2);
        for (int k = 0; k < 5; k++) {
            setLocals(x, 100 * k, 100 * k + 1, 100 * k + 2, 100 * k + 3);
            due("CALL at depth " + (k + 1), x.stepInto(), 1);
            dueLocals("CALL at depth " + (k + 1), x, 0, 100 * k + named[k], 0, 0, 0);
            dueLocals("its caller", x, 1, 100 * k, 100 * k + 1, 100 * k + 2, 100 * k + 3);
            due("its caller goes on", x.counter(1), 2 * k + 1);
        }
        setLocals(x, 77, 1, 2, 3);
        int comes = 77;
        for (int k = 4; k >= 0; k--) {
            due("RETURN to depth " + (k + 1), x.stepInto(), 1);
            dueAt("RETURN to depth " + (k + 1), x, WovenDebugger.STEPPED, k + 1, 2 * k + 1);
            int[] want = {100 * k, 100 * k + 1, 100 * k + 2, 100 * k + 3};
            want[named[k]] = comes;
            dueLocals("RETURN to depth " + (k + 1), x, 0, want);
            comes = want[0];
        }
        due("the last RETURN", x.stepInto(), 1);
        dueAt("the last RETURN", x, WovenDebugger.EXITED, 1, 1);
    }

    // "its L[0] being the caller's L[a], its other locals 0", also where another frame has stood
    private static void aNewFrameIsClean() {
        WovenDebugger x = started(CALL, 2, 2, JUMP, 0, 0, RETURN, 0, 0);
        for (int round = 1; round <= 3; round++) {
            x.setLocal(2, -round);
            x.stepInto();
            dueLocals("round " + round, x, 0, -round, 0, 0, 0);
            setLocals(x, 5, 6, 7, 8);
            x.resume(2);
            dueAt("round " + round, x, WovenDebugger.PAUSED, 1, 0);
            dueLocals("back from round " + round, x, 0, 0, 0, 5, 0);
        }
    }

    // "LOCALS (0 to 3, ints that wrap)"
    private static void localsWrap() {
        due("MAX + 1", computed(ADD, MAX, 1), MIN);
        due("MAX + MAX", computed(ADD, MAX, MAX), -2);
        due("MIN + -1", computed(ADD, MIN, -1), MAX);
        due("MIN + MIN", computed(ADD, MIN, MIN), 0);
        due("MIN - 1", computed(SUB, MIN, 1), MAX);
        due("MAX - -1", computed(SUB, MAX, -1), MIN);
        due("0 - MIN", computed(SUB, 0, MIN), MIN);
        due("MIN - MAX", computed(SUB, MIN, MAX), 1);
        due("MAX * 2", computed(MUL, MAX, 2), -2);
        due("MAX * MAX", computed(MUL, MAX, MAX), 1);
        due("MIN * -1", computed(MUL, MIN, -1), MIN);
        due("65536 * 65536", computed(MUL, 65536, 65536), 0);
        due("46341 * 46341", computed(MUL, 46341, 46341), -2147479015);
        due("MOVE of MIN", computed(MOVE, 0, MIN), MIN);
    }

    private static int computed(int op, int left, int right) {
        WovenDebugger x = started(op, 1, 2, OUT, 1, 0, RETURN, 0, 0);
        setLocals(x, 3, left, right, 4);
        x.resume(2);
        dueLocals("op " + op + " leaves the others", x, 0, 3, x.output(0), right, 4);
        return x.local(0, 1);
    }

    // "a local is named by the two lowest bits of a number"
    private static void computingNamesLocalsByTwoBits() {
        for (int op = MOVE; op <= MUL; op++) {
            for (int a : NUMBERS) {
                for (int b : NUMBERS) {
                    WovenDebugger x = started(op, a, b, RETURN, 0, 0);
                    int[] l = {3, 5, -7, 11};
                    setLocals(x, l);
                    due("stepInto", x.stepInto(), 1);
                    int left = Math.floorMod(a, 4);
                    l[left] = result(op, l[left], l[Math.floorMod(b, 4)]);
                    dueLocals("op " + op + " of " + a + " and " + b, x, 0, l);
                    dueAt("op " + op + " of " + a + " and " + b, x, WovenDebugger.STEPPED, 1, 1);
                }
            }
        }
    }

    private static int result(int op, int left, int right) {
        switch (op) {
            case MOVE: return right;
            case ADD: return left + right;
            case SUB: return left - right;
            default: return left * right;
        }
    }

    private static void setTakesAnyInt() {
        for (int a : NUMBERS) {
            for (int b : NUMBERS) {
                WovenDebugger x = started(SET, a, b, RETURN, 0, 0);
                int[] l = {3, 5, -7, 11};
                setLocals(x, l);
                due("stepInto", x.stepInto(), 1);
                l[Math.floorMod(a, 4)] = b;
                dueLocals("SET of " + a + " and " + b, x, 0, l);
            }
        }
    }

    private static void outNamesItsLocalByTwoBits() {
        int[] l = {3, MIN, -7, MAX};
        for (int a : NUMBERS) {
            WovenDebugger x = started(OUT, a, a, RETURN, 0, 0);
            setLocals(x, l);
            due("stepInto", x.stepInto(), 1);
            due("OUT of " + a, x.output(0), l[Math.floorMod(a, 4)]);
            due("OUT of " + a + ": outputs", x.outputs(), 1);
            dueLocals("OUT of " + a, x, 0, l);
        }
    }

    // JLESS names its second local by the bits above the first one's
    private static void jumpingNamesLocalsByTwoBits() {
        int[] l = {3, -5, 7, 1};
        for (int a : NUMBERS) {
            WovenDebugger x = started(JLESS, a, 2, RETURN, 0, 0, RETURN, 0, 0);
            setLocals(x, l);
            due("stepInto", x.stepInto(), 1);
            boolean less = l[Math.floorMod(a, 4)] < l[Math.floorMod(Math.floorDiv(a, 4), 4)];
            dueAt("JLESS of " + a, x, WovenDebugger.STEPPED, 1, less ? 2 : 1);
            dueLocals("JLESS of " + a, x, 0, l);
            for (int zero = 0; zero < 4; zero++) {
                WovenDebugger y = started(JZERO, a, 2, RETURN, 0, 0, RETURN, 0, 0);
                setLocals(y, 1, 2, -3, 4);
                y.setLocal(zero, 0);
                due("stepInto", y.stepInto(), 1);
                dueAt("JZERO of " + a + " with zero at " + zero, y, WovenDebugger.STEPPED, 1,
                    Math.floorMod(a, 4) == zero ? 2 : 1);
            }
        }
    }

    private static void callNamesItsLocalByTwoBits() {
        for (int a : NUMBERS) {
            WovenDebugger x = started(CALL, a, 2, RETURN, 0, 0, RETURN, a, a);
            int[] l = {3, -5, 7, 1};
            setLocals(x, l);
            due("stepInto", x.stepInto(), 1);
            dueLocals("CALL with " + a, x, 0, l[Math.floorMod(a, 4)], 0, 0, 0);
            dueLocals("CALL with " + a, x, 1, l);
            setLocals(x, 99, 1, 2, 3);
            due("stepInto", x.stepInto(), 1);
            l[Math.floorMod(a, 4)] = 99;
            dueLocals("RETURN with " + a, x, 0, l);
        }
    }

    // JUMP has no use for a, OUT none for b, RETURN none for either
    private static void numbersThatMeanNothing() {
        for (int n : NUMBERS) {
            WovenDebugger x = started(JUMP, n, 2, RETURN, 0, 0, OUT, 1, n, RETURN, n, n);
            x.setLocal(1, 8);
            due("JUMP, OUT and RETURN with " + n, x.resume(300), 3);
            dueAt("JUMP, OUT and RETURN with " + n, x, WovenDebugger.EXITED, 1, 3);
            due("OUT with " + n, x.output(0), 8);
            dueLocals("JUMP, OUT and RETURN with " + n, x, 0, 0, 8, 0, 0);
        }
    }

    // "next counter is b if L[a] < L[a >> 2], else p + 1"
    private static void lessOfFarNumbers() {
        int[] values = {MIN, MIN + 1, -1073741825, -1, 0, 1, 1073741824, MAX - 1, MAX};
        for (int i = 0; i < values.length; i++) {
            for (int k = 0; k < values.length; k++) {
                WovenDebugger x = started(JLESS, 1 + 4 * 2, 2, RETURN, 0, 0, RETURN, 0, 0);
                x.setLocal(1, values[i]);
                x.setLocal(2, values[k]);
                x.stepInto();
                due("JLESS of " + values[i] + " and " + values[k], x.counter(0), i < k ? 2 : 1);
            }
        }
        WovenDebugger x = started(JLESS, 1 + 4, 2, RETURN, 0, 0, RETURN, 0, 0);
        x.stepInto();
        due("JLESS of a local with itself", x.counter(0), 1);
    }

    // "next counter is b if L[a] is 0, else p + 1"
    private static void zeroAlone() {
        for (int value : new int[] {MIN, -65536, -256, -1, 0, 1, 256, 65536, MAX}) {
            WovenDebugger x = started(JZERO, 3, 2, RETURN, 0, 0, RETURN, 0, 0);
            x.setLocal(3, value);
            x.stepInto();
            due("JZERO of " + value, x.counter(0), value == 0 ? 2 : 1);
        }
    }

    // "If it is the only frame, nothing of this happens and the machine has EXITED"
    private static void returnOfTheOnlyFrame() {
        WovenDebugger x = started(OUT, 1, 0, RETURN, 1, 2, RETURN, 0, 0);
        setLocals(x, 5, 6, 7, 8);
        x.stepInto();
        String before = look(x);
        due("an instruction that exits counts as carried out", x.resume(300), 1);
        dueAt("exit", x, WovenDebugger.EXITED, 1, 1);
        due("exit: the rest", look(x), before);
        due("nothing runs after it", x.stepInto(), WovenDebugger.NOT_RUNNING);
    }

    // "If the next counter is not the number of an instruction, the instruction is carried out all the same and
    // then the machine FAULTS; the counter is that number."
    private static void goingOutside() {
        for (int size : new int[] {1, 3, 19, 20}) {
            for (int target : new int[] {MIN, MIN + 1, -20, -2, -1, size, size + 1, 20, 21, 32, 64, 256, MAX}) {
                for (int op : new int[] {JUMP, JLESS, JZERO, CALL}) {
                    goOutside(op, size, target);
                }
            }
        }
    }

    private static void goOutside(int op, int size, int target) {
        String what = "op " + op + " to " + target + " in a program of " + size;
        WovenDebugger x = new WovenDebugger();
        x.emit(op, 0 + 4 * 1, target);
        for (int i = 1; i < size; i++) {
            x.emit(RETURN, 0, 0);
        }
        x.start(0);
        setLocals(x, 0, 1, 2, 3);
        due(what, x.resume(300), 1);
        dueAt(what, x, WovenDebugger.FAULTED, op == CALL ? 2 : 1, target);
        dueLocals(what, x, op == CALL ? 1 : 0, 0, 1, 2, 3);
        due(what + ": counter(1)", x.counter(1), op == CALL ? 1 : WovenDebugger.BAD_PLACE);
        due(what + ": what comes then", x.resume(300), WovenDebugger.NOT_RUNNING);
    }

    private static void goingOnFromTheLast() {
        for (int size = 1; size <= 20; size++) {
            dueLocalsAfterTheLast(SET, size, 40, -5, 7, 1);
            dueLocalsAfterTheLast(MOVE, size, 3, -5, 7, 1);
            dueLocalsAfterTheLast(ADD, size, 6, -5, 7, 1);
            dueLocalsAfterTheLast(SUB, size, 0, -5, 7, 1);
            dueLocalsAfterTheLast(MUL, size, 9, -5, 7, 1);
            dueLocalsAfterTheLast(OUT, size, 3, -5, 7, 1);
        }
    }

    private static void dueLocalsAfterTheLast(int op, int size, int... want) {
        String what = "op " + op + " as the last of " + size;
        WovenDebugger x = new WovenDebugger();
        for (int i = 1; i < size; i++) {
            x.emit(JUMP, 0, size - 1);
        }
        x.emit(op, 0, 40);
        x.start(size - 1);
        setLocals(x, 3, -5, 7, 1);
        due(what, x.resume(300), 1);
        dueAt(what, x, WovenDebugger.FAULTED, 1, size);
        dueLocals(what, x, 0, want);
        due(what + ": outputs", x.outputs(), op == OUT ? 1 : 0);
        due(what + ": output", x.output(0), op == OUT ? 3 : 0);
    }

    private static void aJumpNotTakenFromTheLast() {
        for (int op : new int[] {JLESS, JZERO}) {
            WovenDebugger x = started(RETURN, 0, 0, op, 1, 0);
            x.start(1);
            x.setLocal(1, 4);
            due("op " + op + " not taken", x.resume(300), 1);
            dueAt("op " + op + " not taken", x, WovenDebugger.FAULTED, 1, 2);
            WovenDebugger y = started(op, 1, -1, RETURN, 0, 0);
            y.setLocal(1, 4);
            due("op " + op + " not taken to nowhere", y.stepInto(), 1);
            dueAt("op " + op + " not taken to nowhere", y, WovenDebugger.STEPPED, 1, 1);
        }
    }

    // A CALL that is the last instruction: its caller goes on just behind the program.
    private static void returningOutside() {
        for (int size = 2; size <= 20; size++) {
            WovenDebugger x = new WovenDebugger();
            for (int i = 1; i < size; i++) {
                x.emit(RETURN, 0, 0);
            }
            x.emit(CALL, 2, 0);
            x.start(size - 1);
            setLocals(x, 3, -5, 7, 1);
            due("CALL from the last of " + size, x.stepInto(), 1);
            dueAt("CALL from the last of " + size, x, WovenDebugger.STEPPED, 2, 0);
            due("where its caller goes on", x.counter(1), size);
            x.setLocal(0, 70);
            due("RETURN to " + size, x.resume(300), 1);
            dueAt("RETURN to " + size, x, WovenDebugger.FAULTED, 1, size);
            dueLocals("RETURN to " + size, x, 0, 3, -5, 70, 1);
        }
    }

    private static void insideIsNoFault() {
        for (int target = 0; target < 20; target++) {
            for (int op : new int[] {JUMP, JLESS, JZERO, CALL}) {
                WovenDebugger x = new WovenDebugger();
                for (int i = 0; i < 20; i++) {
                    x.emit(op, 0 + 4 * 1, target);
                }
                x.start(7);
                setLocals(x, 0, 1, 2, 3);
                due("op " + op + " to " + target, x.stepInto(), 1);
                dueAt("op " + op + " to " + target, x, WovenDebugger.STEPPED, op == CALL ? 2 : 1, target);
            }
        }
    }
}
