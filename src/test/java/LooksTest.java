/** What a command looks at after each instruction, in its order, above all where two or more looks hold at once. */
public final class LooksTest extends Checks {
    private static final int RESUME = 0;
    private static final int INTO = 1;
    private static final int OVER = 2;
    private static final int OUTWARD = 3;
    private static final String[] COMMANDS = {"resume", "stepInto", "stepOver", "stepOut"};

    /** What the instruction that is carried out first does. */
    private enum Does { GOES_ON, CALLS, RETURNS, EXITS, CALLS_TOO_DEEP, JUMPS_OUTSIDE, RETURNS_OUTSIDE }

    private static final int NO_BREAK = -1;

    public static void main(String[] args) {
        everyLookWithEveryOther();
        theFirstIsCarriedOutWithoutALook();
        endsBeforeGoals();
        goalsBeforeBreaks();
        breaksBeforePauses();
        skipsGoDownByOne();
        skipsAtTheLastInstruction();
        aBreakWhereTheMachineStays();
        breaksAtCallsAndReturns();
        aBreakThatIsSetAgainOrTakenAway();
        stepOverALongWay();
        stepOverARecursion();
        stepOutOfEveryDepth();
        stepOutPassesCalls();
        finish();
    }

    private static int give(WovenDebugger x, int command, int max) {
        switch (command) {
            case RESUME: return x.resume(max);
            case INTO: return x.stepInto();
            case OVER: return x.stepOver(max);
            default: return x.stepOut(max);
        }
    }

    private static void everyLookWithEveryOther() {
        for (int command = RESUME; command <= OUTWARD; command++) {
            for (Does does : Does.values()) {
                for (int skip : new int[] {NO_BREAK, 0, 1, 2, 99, 100}) {
                    for (int max = 1; max <= 2; max++) {
                        looksAfterOne(command, does, skip, max);
                    }
                }
            }
        }
    }

    private static void looksAfterOne(int command, Does does, int skip, int max) {
        boolean ends = does.compareTo(Does.EXITS) >= 0;
        boolean outside = does.compareTo(Does.JUMPS_OUTSIDE) >= 0;
        if (outside && skip != NO_BREAK) {
            return; // no breakpoint can stand there
        }
        WovenDebugger x = before(does);
        int place = newCounter(does);
        if (skip != NO_BREAK) {
            x.setBreak(place, skip);
        }
        boolean goal = command == INTO || command == OVER && does != Does.CALLS
            || command == OUTWARD && does == Does.RETURNS;
        boolean stops = skip == 0;
        String what = COMMANDS[command] + "(" + max + ") of what " + does + ", skip " + skip;
        due(what, give(x, command, max), ends || goal || stops || max == 1 ? 1 : 2);
        int stopped = goal ? WovenDebugger.STEPPED : stops ? WovenDebugger.AT_BREAK : WovenDebugger.PAUSED;
        int ended = does == Does.EXITS ? WovenDebugger.EXITED : WovenDebugger.FAULTED;
        due(what + ": state", x.state(), ends ? ended : stopped);
        int left = ends || goal || skip < 1 ? skip : skip - 1;
        due(what + ": skip", x.skip(place), skip == NO_BREAK ? WovenDebugger.BAD_PLACE : left);
    }

    /** A machine that is just ahead of an instruction that does this. */
    private static WovenDebugger before(Does does) {
        WovenDebugger x;
        switch (does) {
            case GOES_ON:
                x = started(CALL, 0, 2, OUT, 0, 0, SET, 1, 1, OUT, 0, 0, OUT, 0, 0, RETURN, 0, 0);
                x.stepInto();
                return x;
            case CALLS:
                x = started(CALL, 0, 2, OUT, 0, 0, CALL, 1, 3, OUT, 0, 0, OUT, 0, 0, RETURN, 0, 0);
                x.stepInto();
                return x;
            case RETURNS:
                x = started(CALL, 0, 2, OUT, 0, 0, RETURN, 0, 0);
                x.stepInto();
                return x;
            case EXITS:
                return started(RETURN, 0, 0, RETURN, 0, 0);
            case CALLS_TOO_DEEP:
                x = started(CALL, 0, 0, RETURN, 0, 0);
                x.resume(5);
                return x;
            case JUMPS_OUTSIDE:
                return started(JUMP, 0, 3, RETURN, 0, 0);
            default:
                x = started(JUMP, 0, 2, RETURN, 0, 0, CALL, 0, 1);
                x.resume(2);
                return x;
        }
    }

    private static int newCounter(Does does) {
        switch (does) {
            case GOES_ON:
            case CALLS:
                return 3;
            case RETURNS:
                return 1;
            case EXITS:
            case CALLS_TOO_DEEP:
                return 0;
            default:
                return 3;
        }
    }

    // "the first one without a look at breakpoints"
    private static void theFirstIsCarriedOutWithoutALook() {
        for (int command = RESUME; command <= OUTWARD; command++) {
            for (int skip : new int[] {0, 1, 100}) {
                for (int state = WovenDebugger.READY; state <= WovenDebugger.PAUSED; state++) {
                    WovenDebugger x = standingAtOne(state);
                    x.setBreak(1, skip);
                    String what = COMMANDS[command] + " when " + state + " at a break with skip " + skip;
                    due(what, give(x, command, 1), 1);
                    due(what + ": counter", x.counter(0), 2);
                    due(what + ": skip", x.skip(1), skip);
                    due(what + ": state", x.state(), command == INTO || command == OVER
                        ? WovenDebugger.STEPPED : WovenDebugger.PAUSED);
                }
            }
        }
    }

    private static WovenDebugger standingAtOne(int state) {
        WovenDebugger x = program(OUT, 0, 0, OUT, 0, 0, OUT, 0, 0, RETURN, 0, 0);
        x.start(state == WovenDebugger.READY ? 1 : 0);
        if (state == WovenDebugger.STEPPED) {
            x.stepInto();
        } else if (state == WovenDebugger.AT_BREAK) {
            x.setBreak(1, 0);
            x.resume(300);
        } else if (state == WovenDebugger.PAUSED) {
            x.resume(1);
        }
        dueAt("the way to state " + state, x, state, 1, 1);
        return x;
    }

    // "1. the machine has exited or faulted: it stops", ahead of "2. the command's own goal is reached"
    private static void endsBeforeGoals() {
        WovenDebugger x = started(JUMP, 0, 2, RETURN, 0, 0, CALL, 0, 1);
        x.resume(2);
        due("stepOut to a place outside", x.stepOut(300), 1);
        dueAt("stepOut to a place outside", x, WovenDebugger.FAULTED, 1, 3);
        x.start(2);
        due("stepOver to a place outside", x.stepOver(300), 2);
        dueAt("stepOver to a place outside", x, WovenDebugger.FAULTED, 1, 3);
        x.start(1);
        due("stepOver an exit", x.stepOver(300), 1);
        dueAt("stepOver an exit", x, WovenDebugger.EXITED, 1, 1);
        WovenDebugger y = started(SET, 0, 5);
        due("stepOver the last", y.stepOver(300), 1);
        dueAt("stepOver the last", y, WovenDebugger.FAULTED, 1, 1);
        due("it was carried out", y.local(0, 0), 5);
    }

    // "2. ... it stops, STEPPED" ahead of "3. a breakpoint stands at the new counter"
    private static void goalsBeforeBreaks() {
        for (int skip : new int[] {0, 1, 100}) {
            WovenDebugger x = program(CALL, 0, 2, RETURN, 0, 0, OUT, 0, 0, RETURN, 0, 0);
            x.setBreak(1, skip);
            x.start(0);
            due("stepOver to a break", x.stepOver(300), 3);
            dueAt("stepOver to a break", x, WovenDebugger.STEPPED, 1, 1);
            due("stepOver to a break: skip", x.skip(1), skip);
            x.start(0);
            x.stepInto();
            due("stepOut to a break", x.stepOut(2), 2);
            dueAt("stepOut to a break", x, WovenDebugger.STEPPED, 1, 1);
            due("stepOut to a break: skip", x.skip(1), skip);
            x.setBreak(2, skip);
            x.start(0);
            due("stepInto a break", x.stepInto(), 1);
            dueAt("stepInto a break", x, WovenDebugger.STEPPED, 2, 2);
            due("stepInto a break: skip", x.skip(2), skip);
        }
    }

    // "3. ... AT_BREAK" ahead of "4. the command has carried out as many instructions as it may"
    private static void breaksBeforePauses() {
        WovenDebugger x = program(CALL, 0, 1, OUT, 0, 0, OUT, 0, 0, OUT, 0, 0, RETURN, 0, 0);
        x.setBreak(3, 0);
        for (int command : new int[] {RESUME, OVER, OUTWARD}) {
            x.start(0);
            due(COMMANDS[command] + " of just as many", give(x, command, 3), 3);
            dueAt(COMMANDS[command] + " of just as many", x, WovenDebugger.AT_BREAK, 2, 3);
            x.start(0);
            due(COMMANDS[command] + " of one less", give(x, command, 2), 2);
            dueAt(COMMANDS[command] + " of one less", x, WovenDebugger.PAUSED, 2, 2);
            due(COMMANDS[command] + " of one more", give(x, RESUME, 1), 1);
            dueAt(COMMANDS[command] + " of one more", x, WovenDebugger.AT_BREAK, 2, 3);
        }
    }

    // "if its skip count is 0, it stops, AT_BREAK; else the skip count goes down by 1"
    private static void skipsGoDownByOne() {
        for (int skip = 0; skip <= 100; skip++) {
            WovenDebugger x = started(OUT, 0, 0, JUMP, 0, 0);
            due("setBreak(1, " + skip + ")", x.setBreak(1, skip), 1);
            due("skip " + skip + " times", x.resume(300), 2 * skip + 1);
            dueAt("skip " + skip + " times", x, WovenDebugger.AT_BREAK, 1, 1);
            due("no skip is left of " + skip, x.skip(1), 0);
            due("it stops from then on", x.resume(300), 2);
            dueAt("it stops from then on", x, WovenDebugger.AT_BREAK, 1, 1);
            due("still no skip is left", x.skip(1), 0);
        }
        WovenDebugger x = started(OUT, 0, 0, JUMP, 0, 0);
        x.setBreak(1, 100);
        for (int met = 1; met <= 100; met++) {
            x.resume(met == 1 ? 1 : 2);
            dueAt("met " + met + " times", x, WovenDebugger.PAUSED, 1, 1);
            due("met " + met + " times: skip", x.skip(1), 100 - met);
        }
    }

    private static void skipsAtTheLastInstruction() {
        WovenDebugger x = started(OUT, 0, 0, OUT, 0, 0, RETURN, 0, 0);
        x.setBreak(1, 1);
        due("a skip at the last one that it may", x.resume(1), 1);
        dueAt("a skip at the last one that it may", x, WovenDebugger.PAUSED, 1, 1);
        due("it went down all the same", x.skip(1), 0);
        due("from there the first goes without a look", x.resume(1), 1);
        dueAt("from there the first goes without a look", x, WovenDebugger.PAUSED, 1, 2);
    }

    private static void aBreakWhereTheMachineStays() {
        WovenDebugger x = started(JUMP, 0, 0);
        x.setBreak(0, 3);
        due("a jump to itself", x.resume(300), 4);
        dueAt("a jump to itself", x, WovenDebugger.AT_BREAK, 1, 0);
        due("a jump to itself: skip", x.skip(0), 0);
        due("once more", x.resume(300), 1);
        due("once more: state", x.state(), WovenDebugger.AT_BREAK);
    }

    private static void breaksAtCallsAndReturns() {
        WovenDebugger x = program(CALL, 0, 2, RETURN, 0, 0, RETURN, 0, 0);
        x.setBreak(2, 1);
        x.setBreak(1, 1);
        x.start(0);
        due("a call and a return pass two breaks", x.resume(300), 3);
        due("a call and a return pass two breaks: state", x.state(), WovenDebugger.EXITED);
        due("the break called to", x.skip(2), 0);
        due("the break returned to", x.skip(1), 0);
        x.start(0);
        due("the break called to stops", x.resume(300), 1);
        dueAt("the break called to stops", x, WovenDebugger.AT_BREAK, 2, 2);
        due("the break returned to stops", x.resume(300), 1);
        dueAt("the break returned to stops", x, WovenDebugger.AT_BREAK, 1, 1);
    }

    private static void aBreakThatIsSetAgainOrTakenAway() {
        WovenDebugger x = started(OUT, 0, 0, JUMP, 0, 0);
        x.setBreak(1, 100);
        x.resume(1);
        due("set again with 0", x.setBreak(1, 0), 1);
        due("it stops at once", x.resume(300), 2);
        dueAt("it stops at once", x, WovenDebugger.AT_BREAK, 1, 1);
        due("taken away", x.clearBreak(1), 0);
        due("it does not stop", x.resume(300), 300);
        dueAt("it does not stop", x, WovenDebugger.PAUSED, 1, 1);
    }

    // "the goal is reached as soon as no more frames stand than before the command"
    private static void stepOverALongWay() {
        WovenDebugger x = started(CALL, 0, 2, RETURN, 0, 0, SET, 1, 1, SUB, 0, 1, JZERO, 0, 6, JUMP, 0, 3,
            RETURN, 0, 0);
        // The called part carries out 3 * n + 1 instructions for L[0] = n: with the CALL, 299 for n = 99.
        x.setLocal(0, 99);
        due("stepOver 299", x.stepOver(299), 299);
        dueAt("stepOver 299", x, WovenDebugger.STEPPED, 1, 1);
        x.start(0);
        x.setLocal(0, 99);
        due("stepOver of one less", x.stepOver(298), 298);
        dueAt("stepOver of one less", x, WovenDebugger.PAUSED, 2, 6);
        x.start(0);
        x.setLocal(0, 100);
        due("stepOver 302", x.stepOver(302), 300);
        dueAt("stepOver 302", x, WovenDebugger.PAUSED, 2, 4);
        due("a stepOver from inside has another goal", x.stepOver(300), 1);
        dueAt("a stepOver from inside has another goal", x, WovenDebugger.STEPPED, 2, 6);
    }

    private static void stepOverARecursion() {
        // 3 calls itself until L[0] is 0.
        WovenDebugger x = started(SET, 0, 4, CALL, 0, 3, RETURN, 0, 0, JZERO, 0, 7, SET, 1, 1, SUB, 0, 1, CALL, 0, 3,
            RETURN, 0, 0);
        x.stepInto();
        due("stepOver a recursion", x.stepOver(300), 1 + 4 * 5 + 2);
        dueAt("stepOver a recursion", x, WovenDebugger.STEPPED, 1, 2);
        x.start(1);
        x.setLocal(0, 4);
        x.resume(9);
        dueAt("inside the recursion", x, WovenDebugger.PAUSED, 4, 3);
        x.resume(3);
        due("stepOver from inside", x.stepOver(300), 1 + 4 + 3);
        dueAt("stepOver from inside", x, WovenDebugger.STEPPED, 4, 7);
        due("stepOver a RETURN", x.stepOver(300), 1);
        dueAt("stepOver a RETURN", x, WovenDebugger.STEPPED, 3, 7);
    }

    // "the goal is reached as soon as fewer frames stand than before the command"
    private static void stepOutOfEveryDepth() {
        WovenDebugger x = started(JZERO, 0, 3, CALL, 1, 0, RETURN, 0, 0, RETURN, 0, 0);
        x.setLocal(0, 1);
        x.setLocal(1, 1);
        for (int depth = 2; depth <= 6; depth++) {
            x.resume(2);
            x.setLocal(0, depth == 6 ? 0 : 1);
            x.setLocal(1, 1);
        }
        dueAt("six frames", x, WovenDebugger.PAUSED, 6, 0);
        due("stepOut of the newest", x.stepOut(300), 2);
        for (int depth = 5; depth >= 2; depth--) {
            dueAt("stepOut to depth " + depth, x, WovenDebugger.STEPPED, depth, 2);
            due("stepOut from depth " + depth, x.stepOut(300), 1);
        }
        dueAt("stepOut to depth 1", x, WovenDebugger.STEPPED, 1, 2);
        due("stepOut of the only frame", x.stepOut(300), 1);
        dueAt("stepOut of the only frame", x, WovenDebugger.EXITED, 1, 2);
    }

    private static void stepOutPassesCalls() {
        WovenDebugger x = started(CALL, 0, 2, RETURN, 0, 0, CALL, 0, 5, CALL, 0, 5, RETURN, 0, 0, RETURN, 0, 0);
        x.stepInto();
        due("stepOut past two calls", x.stepOut(300), 5);
        dueAt("stepOut past two calls", x, WovenDebugger.STEPPED, 1, 1);
        x.start(0);
        due("stepOut of the only frame past three calls", x.stepOut(300), 7);
        dueAt("stepOut of the only frame past three calls", x, WovenDebugger.EXITED, 1, 1);
        x.start(0);
        due("stepOut of the only frame, cut short", x.stepOut(6), 6);
        dueAt("stepOut of the only frame, cut short", x, WovenDebugger.PAUSED, 1, 1);
    }
}
