/** Each promise of the document: ordinary calls, the edges that it names, and wrong inputs. */
public final class PromiseTest extends Checks {
    public static void main(String[] args) {
        newObject();
        emitAppends();
        emitOrder();
        startBegins();
        startKeepsAndRefuses();
        startEmptiesEverything();
        setBreakCounts();
        setBreakRefuses();
        setBreakInAnyState();
        clearBreakCounts();
        resumeLimits();
        resumeMeetsBreaks();
        resumeLooksInOrder();
        commandsNeedARunningMachine();
        stepIntoOne();
        stepIntoLooksAtEndFirst();
        stepOverCalls();
        stepOverStopsInside();
        stepOutOfFrames();
        stepOutOfTheOnlyFrame();
        setLocalSets();
        setLocalAfterTheEnd();
        counterOfLevels();
        localOfLevels();
        outputsKeepEight();
        skipCounts();
        arithmetic();
        wrapping();
        localsByLowestBits();
        jumps();
        jumpsOutOfTheProgram();
        callsAndReturns();
        callsOutOfTheProgram();
        returnsOutOfTheProgram();
        sevenFrames();
        longUse();
        finish();
    }

    // Promise 1, and what promises 11 to 17 answer of a new object
    private static void newObject() {
        WovenDebugger x = new WovenDebugger();
        due("new: state", x.state(), WovenDebugger.NONE);
        due("new: depth", x.depth(), 0);
        due("new: counter(0)", x.counter(0), WovenDebugger.BAD_PLACE);
        due("new: local(0, 0)", x.local(0, 0), 0);
        due("new: outputs", x.outputs(), 0);
        due("new: output(0)", x.output(0), 0);
        due("new: skip(0)", x.skip(0), WovenDebugger.BAD_PLACE);
        due("new: start(0)", x.start(0), WovenDebugger.BAD_PLACE);
        due("new: setBreak(0, 0)", x.setBreak(0, 0), WovenDebugger.BAD_PLACE);
        due("new: clearBreak(0)", x.clearBreak(0), WovenDebugger.BAD_PLACE);
        due("new: state is left", x.state(), WovenDebugger.NONE);
        due("new: emit", x.emit(OUT, 0, 0), 0);
    }

    // Promises 2 and 18
    private static void emitAppends() {
        WovenDebugger x = new WovenDebugger();
        due("emit(-1)", x.emit(-1, 0, 0), WovenDebugger.BAD_OP);
        due("emit(11)", x.emit(11, 0, 0), WovenDebugger.BAD_OP);
        due("emit(MIN)", x.emit(MIN, 0, 0), WovenDebugger.BAD_OP);
        due("emit(MAX)", x.emit(MAX, 0, 0), WovenDebugger.BAD_OP);
        for (int i = 0; i < 20; i++) {
            due("emit number " + i, x.emit(i % 11, MIN + i, MAX - i), i);
        }
        due("emit of a 21st", x.emit(0, 0, 0), WovenDebugger.FULL);
        due("a full one still starts at 19", x.start(19), 0);
        due("no instruction 20", x.start(20), WovenDebugger.BAD_PLACE);
    }

    private static void emitOrder() {
        WovenDebugger x = new WovenDebugger();
        for (int i = 0; i < 20; i++) {
            x.emit(RETURN, 0, 0);
        }
        due("BAD_OP before FULL", x.emit(11, 0, 0), WovenDebugger.BAD_OP);
        x.start(0);
        due("BAD_OP before all", x.emit(-1, 0, 0), WovenDebugger.BAD_OP);
        due("FULL before BAD_PLACE", x.emit(0, 0, 0), WovenDebugger.FULL);

        WovenDebugger y = started(RETURN, 0, 0);
        due("BAD_OP before BAD_PLACE", y.emit(11, 0, 0), WovenDebugger.BAD_OP);
        due("emit when READY", y.emit(0, 0, 0), WovenDebugger.BAD_PLACE);
        due("no instruction came", y.setBreak(1, 0), WovenDebugger.BAD_PLACE);
        due("resume", y.resume(1), 1);
        due("emit when EXITED", y.emit(0, 0, 0), WovenDebugger.BAD_PLACE);

        WovenDebugger z = program(RETURN, 0, 0);
        z.start(1);
        due("emit after a start that was refused", z.emit(RETURN, 0, 0), 1);
    }

    // Promise 3
    private static void startBegins() {
        WovenDebugger x = program(SET, 0, 1, SET, 1, 2, RETURN, 0, 0);
        due("start(1)", x.start(1), 0);
        dueAt("start(1)", x, WovenDebugger.READY, 1, 1);
        dueLocals("start(1)", x, 0, 0, 0, 0, 0);
        due("start(2)", x.start(2), 0);
        dueAt("start(2)", x, WovenDebugger.READY, 1, 2);
    }

    private static void startKeepsAndRefuses() {
        WovenDebugger x = started(SET, 0, 7, OUT, 0, 0, JUMP, 0, 0);
        x.setBreak(0, 3);
        due("resume(2)", x.resume(2), 2);
        due("start(3)", x.start(3), WovenDebugger.BAD_PLACE);
        due("start(-1)", x.start(-1), WovenDebugger.BAD_PLACE);
        due("start(MIN)", x.start(MIN), WovenDebugger.BAD_PLACE);
        due("start(MAX)", x.start(MAX), WovenDebugger.BAD_PLACE);
        dueAt("refused starts", x, WovenDebugger.PAUSED, 1, 2);
        due("refused starts: local", x.local(0, 0), 7);
        due("refused starts: outputs", x.outputs(), 1);
        due("resume(1)", x.resume(1), 1);
        due("skip went down", x.skip(0), 2);
        due("start again", x.start(0), 0);
        due("start does not set skips back", x.skip(0), 2);
        due("breakpoints stay", x.setBreak(1, 0), 2);
    }

    private static void startEmptiesEverything() {
        WovenDebugger x = started(SET, 1, 5, SET, 2, 6, SET, 3, 7, SET, 0, 4, OUT, 0, 0, CALL, 0, 0);
        due("resume until six frames stand", x.resume(300), 36);
        dueAt("six frames", x, WovenDebugger.FAULTED, 6, 5);
        due("start(5)", x.start(5), 0);
        dueAt("start after a fault", x, WovenDebugger.READY, 1, 5);
        dueLocals("start after a fault", x, 0, 0, 0, 0, 0);
        due("no second frame", x.counter(1), WovenDebugger.BAD_PLACE);
        due("no second frame's local", x.local(1, 0), 0);
        due("no outputs", x.outputs(), 0);
        due("no output", x.output(0), 0);
        due("stepInto", x.stepInto(), 1);
        dueLocals("a frame made anew", x, 0, 0, 0, 0, 0);
    }

    // Promises 4 and 18
    private static void setBreakCounts() {
        WovenDebugger x = program(SET, 0, 0, SET, 0, 0, RETURN, 0, 0);
        due("setBreak(0, 0)", x.setBreak(0, 0), 1);
        due("setBreak(2, 100)", x.setBreak(2, 100), 2);
        due("setBreak(0, 5) anew", x.setBreak(0, 5), 2);
        due("the new skip count", x.skip(0), 5);
        due("the other skip count", x.skip(2), 100);
    }

    private static void setBreakRefuses() {
        WovenDebugger x = program(SET, 0, 0, RETURN, 0, 0);
        x.setBreak(1, 7);
        due("setBreak(2, 0)", x.setBreak(2, 0), WovenDebugger.BAD_PLACE);
        due("setBreak(-1, 0)", x.setBreak(-1, 0), WovenDebugger.BAD_PLACE);
        due("setBreak(MIN, 0)", x.setBreak(MIN, 0), WovenDebugger.BAD_PLACE);
        due("setBreak(MAX, 0)", x.setBreak(MAX, 0), WovenDebugger.BAD_PLACE);
        due("setBreak(1, -1)", x.setBreak(1, -1), WovenDebugger.BAD_OP);
        due("setBreak(1, 101)", x.setBreak(1, 101), WovenDebugger.BAD_OP);
        due("setBreak(0, 101)", x.setBreak(0, 101), WovenDebugger.BAD_OP);
        due("BAD_PLACE before BAD_OP", x.setBreak(2, 101), WovenDebugger.BAD_PLACE);
        due("skip(1) is left", x.skip(1), 7);
        due("skip(0) is none", x.skip(0), WovenDebugger.BAD_PLACE);
        due("the count is left", x.setBreak(1, 7), 1);
    }

    private static void setBreakInAnyState() {
        WovenDebugger x = program(SET, 0, 0, RETURN, 0, 0);
        due("setBreak when NONE", x.setBreak(1, 0), 1);
        x.start(0);
        due("setBreak when READY", x.setBreak(0, 0), 2);
        x.resume(300);
        dueAt("break set when NONE", x, WovenDebugger.AT_BREAK, 1, 1);
        due("setBreak when AT_BREAK", x.setBreak(1, 1), 2);
        dueAt("setBreak leaves the state", x, WovenDebugger.AT_BREAK, 1, 1);
        x.resume(300);
        due("EXITED", x.state(), WovenDebugger.EXITED);
        due("clearBreak when EXITED", x.clearBreak(0), 1);
        due("setBreak when EXITED", x.setBreak(0, 9), 2);
        dueAt("setBreak leaves EXITED", x, WovenDebugger.EXITED, 1, 1);
    }

    // Promise 5
    private static void clearBreakCounts() {
        WovenDebugger x = program(SET, 0, 0, SET, 0, 0, RETURN, 0, 0);
        x.setBreak(0, 4);
        x.setBreak(1, 0);
        due("clearBreak(2)", x.clearBreak(2), WovenDebugger.BAD_PLACE);
        due("clearBreak(3)", x.clearBreak(3), WovenDebugger.BAD_PLACE);
        due("clearBreak(-1)", x.clearBreak(-1), WovenDebugger.BAD_PLACE);
        due("clearBreak(MIN)", x.clearBreak(MIN), WovenDebugger.BAD_PLACE);
        due("clearBreak(MAX)", x.clearBreak(MAX), WovenDebugger.BAD_PLACE);
        due("clearBreak(1)", x.clearBreak(1), 1);
        due("clearBreak(1) again", x.clearBreak(1), WovenDebugger.BAD_PLACE);
        x.start(0);
        due("a break that is gone does not stop", x.resume(300), 3);
        due("clearBreak(0)", x.clearBreak(0), 0);
        due("skip(0) is gone", x.skip(0), WovenDebugger.BAD_PLACE);
        due("setBreak(0, 0) after it", x.setBreak(0, 0), 1);
        due("its skip count is the new one", x.skip(0), 0);
    }

    // Promise 6 and the terms
    private static void resumeLimits() {
        WovenDebugger x = started(ADD, 0, 1, JUMP, 0, 0);
        x.setLocal(1, 1);
        due("resume(0)", x.resume(0), 1);
        dueAt("resume(0)", x, WovenDebugger.PAUSED, 1, 1);
        due("resume(-5)", x.resume(-5), 1);
        due("resume(MIN)", x.resume(MIN), 1);
        due("resume(1)", x.resume(1), 1);
        due("resume(2)", x.resume(2), 2);
        due("resume(299)", x.resume(299), 299);
        due("resume(300)", x.resume(300), 300);
        due("resume(301)", x.resume(301), 300);
        due("resume(MAX)", x.resume(MAX), 300);
        dueAt("after 1205 instructions", x, WovenDebugger.PAUSED, 1, 1);
        due("half of them and one added", x.local(0, 0), 603);
    }

    private static void resumeMeetsBreaks() {
        WovenDebugger x = started(ADD, 0, 1, ADD, 0, 1, JUMP, 0, 0);
        x.setBreak(0, 0);
        due("the first is carried out without a look", x.resume(300), 3);
        dueAt("a break at the start", x, WovenDebugger.AT_BREAK, 1, 0);
        x.setBreak(0, 2);
        due("two are skipped", x.resume(300), 9);
        due("no skips are left", x.skip(0), 0);
        due("it stops from then on", x.resume(300), 3);
        x.setBreak(1, 1);
        due("a skip goes down on the way", x.resume(2), 2);
        dueAt("paused behind it", x, WovenDebugger.PAUSED, 1, 2);
        due("its skip count", x.skip(1), 0);
        due("another break stops first", x.resume(300), 1);
        due("then this one", x.resume(300), 1);
        dueAt("then this one", x, WovenDebugger.AT_BREAK, 1, 1);
    }

    private static void resumeLooksInOrder() {
        WovenDebugger x = started(SET, 0, 1, SET, 0, 2, RETURN, 0, 0);
        x.setBreak(1, 0);
        due("the last one that it may, at a break", x.resume(1), 1);
        due("AT_BREAK before PAUSED", x.state(), WovenDebugger.AT_BREAK);
        x.start(0);
        x.setBreak(1, 1);
        due("the last one that it may, at a skip", x.resume(1), 1);
        due("a skip and then PAUSED", x.state(), WovenDebugger.PAUSED);
        due("the skip went down", x.skip(1), 0);
        x.start(2);
        x.setBreak(2, 4);
        due("an exit at a break", x.resume(1), 1);
        due("EXITED before all", x.state(), WovenDebugger.EXITED);
        due("no skip at an exit", x.skip(2), 4);
    }

    // The paragraph ahead of the commands
    private static void commandsNeedARunningMachine() {
        WovenDebugger x = program(RETURN, 0, 0, JUMP, 0, 50);
        dueNotRunning("NONE", x);
        due("NONE stays", x.state(), WovenDebugger.NONE);
        x.start(0);
        due("an exit counts", x.resume(5), 1);
        dueNotRunning("EXITED", x);
        dueAt("EXITED stays", x, WovenDebugger.EXITED, 1, 0);
        x.start(1);
        due("a fault counts", x.resume(5), 1);
        dueNotRunning("FAULTED", x);
        dueAt("FAULTED stays", x, WovenDebugger.FAULTED, 1, 50);
    }

    private static void dueNotRunning(String when, WovenDebugger x) {
        due("resume when " + when, x.resume(5), WovenDebugger.NOT_RUNNING);
        due("stepInto when " + when, x.stepInto(), WovenDebugger.NOT_RUNNING);
        due("stepOver when " + when, x.stepOver(5), WovenDebugger.NOT_RUNNING);
        due("stepOut when " + when, x.stepOut(5), WovenDebugger.NOT_RUNNING);
    }

    // Promise 7
    private static void stepIntoOne() {
        WovenDebugger x = started(SET, 2, 9, CALL, 2, 3, RETURN, 0, 0, RETURN, 0, 0);
        x.setBreak(1, 1);
        x.setBreak(3, 0);
        due("stepInto", x.stepInto(), 1);
        dueAt("stepInto", x, WovenDebugger.STEPPED, 1, 1);
        due("the goal comes before the skip", x.skip(1), 1);
        due("stepInto a call", x.stepInto(), 1);
        dueAt("the goal comes before the break", x, WovenDebugger.STEPPED, 2, 3);
        due("stepInto a return", x.stepInto(), 1);
        dueAt("stepInto a return", x, WovenDebugger.STEPPED, 1, 2);
    }

    private static void stepIntoLooksAtEndFirst() {
        WovenDebugger x = started(RETURN, 0, 0, SET, 0, 3);
        due("stepInto an exit", x.stepInto(), 1);
        dueAt("stepInto an exit", x, WovenDebugger.EXITED, 1, 0);
        x.start(1);
        due("stepInto a fault", x.stepInto(), 1);
        dueAt("stepInto a fault", x, WovenDebugger.FAULTED, 1, 2);
        due("it was carried out all the same", x.local(0, 0), 3);
    }

    // Promise 8
    private static void stepOverCalls() {
        WovenDebugger x = started(SET, 1, 5, CALL, 1, 3, RETURN, 0, 0, ADD, 0, 0, CALL, 0, 6, RETURN, 0, 0,
            ADD, 0, 0, RETURN, 0, 0);
        due("stepOver a SET", x.stepOver(300), 1);
        dueAt("stepOver a SET", x, WovenDebugger.STEPPED, 1, 1);
        x.setBreak(2, 0);
        due("stepOver a CALL", x.stepOver(300), 6);
        dueAt("the goal comes before a break", x, WovenDebugger.STEPPED, 1, 2);
        due("what came back", x.local(0, 1), 20);
        due("stepOver an exit", x.stepOver(300), 1);
        due("EXITED before the goal", x.state(), WovenDebugger.EXITED);
        x.start(1);
        x.stepInto();
        x.stepInto();
        due("stepOver in a deeper frame", x.stepOver(300), 3);
        dueAt("stepOver in a deeper frame", x, WovenDebugger.STEPPED, 2, 5);
        due("stepOver a RETURN", x.stepOver(300), 1);
        dueAt("fewer frames reach the goal", x, WovenDebugger.STEPPED, 1, 2);
    }

    private static void stepOverStopsInside() {
        WovenDebugger x = started(CALL, 0, 2, RETURN, 0, 0, SET, 0, 1, SET, 1, 1, RETURN, 0, 0);
        due("stepOver(0)", x.stepOver(0), 1);
        dueAt("stepOver(0)", x, WovenDebugger.PAUSED, 2, 2);
        x.start(0);
        due("stepOver(3)", x.stepOver(3), 3);
        dueAt("stepOver(3)", x, WovenDebugger.PAUSED, 2, 4);
        x.start(0);
        due("stepOver(4)", x.stepOver(4), 4);
        dueAt("the goal comes before PAUSED", x, WovenDebugger.STEPPED, 1, 1);
        x.start(0);
        x.setBreak(3, 0);
        due("stepOver and a break inside", x.stepOver(300), 2);
        dueAt("stepOver and a break inside", x, WovenDebugger.AT_BREAK, 2, 3);
        WovenDebugger y = started(CALL, 0, 1, JUMP, 0, 1);
        due("stepOver(MAX)", y.stepOver(MAX), 300);
        dueAt("stepOver(MAX)", y, WovenDebugger.PAUSED, 2, 1);
    }

    // Promise 9
    private static void stepOutOfFrames() {
        WovenDebugger x = started(CALL, 3, 2, RETURN, 0, 0, CALL, 0, 5, SET, 0, 8, RETURN, 0, 0, RETURN, 0, 0);
        x.stepInto();
        x.setBreak(1, 0);
        due("stepOut(300)", x.stepOut(300), 4);
        dueAt("the goal comes before a break", x, WovenDebugger.STEPPED, 1, 1);
        due("what came back", x.local(0, 3), 8);
        x.start(0);
        x.stepInto();
        due("stepOut(-1)", x.stepOut(-1), 1);
        dueAt("stepOut(-1)", x, WovenDebugger.PAUSED, 3, 5);
        due("stepOut of the newest", x.stepOut(1), 1);
        dueAt("stepOut of the newest", x, WovenDebugger.STEPPED, 2, 3);
        x.setBreak(4, 1);
        due("a skip inside", x.stepOut(1), 1);
        dueAt("a skip inside", x, WovenDebugger.PAUSED, 2, 4);
        due("a skip inside: skip", x.skip(4), 0);
    }

    private static void stepOutOfTheOnlyFrame() {
        WovenDebugger x = started(CALL, 0, 3, SET, 1, 1, RETURN, 0, 0, RETURN, 0, 0);
        due("stepOut of the only frame", x.stepOut(300), 4);
        dueAt("stepOut of the only frame", x, WovenDebugger.EXITED, 1, 2);
        WovenDebugger y = started(JUMP, 0, 0);
        due("stepOut that never ends", y.stepOut(301), 300);
        dueAt("stepOut that never ends", y, WovenDebugger.PAUSED, 1, 0);
    }

    // Promises 10 and 18
    private static void setLocalSets() {
        WovenDebugger x = program(CALL, 2, 1, RETURN, 0, 0);
        due("setLocal without a frame", x.setLocal(0, 1), WovenDebugger.NOT_RUNNING);
        due("NOT_RUNNING before BAD_PLACE", x.setLocal(4, 1), WovenDebugger.NOT_RUNNING);
        x.start(0);
        dueLocals("nothing was set", x, 0, 0, 0, 0, 0);
        for (int i = 0; i < 4; i++) {
            due("setLocal(" + i + ")", x.setLocal(i, 10 + i), 0);
        }
        due("setLocal(-1)", x.setLocal(-1, 1), WovenDebugger.BAD_PLACE);
        due("setLocal(4)", x.setLocal(4, 1), WovenDebugger.BAD_PLACE);
        due("setLocal(MIN)", x.setLocal(MIN, 1), WovenDebugger.BAD_PLACE);
        due("setLocal(MAX)", x.setLocal(MAX, 1), WovenDebugger.BAD_PLACE);
        dueLocals("all four", x, 0, 10, 11, 12, 13);
        dueAt("setLocal leaves the rest", x, WovenDebugger.READY, 1, 0);
        x.stepInto();
        due("setLocal of the current frame", x.setLocal(0, MIN), 0);
        dueLocals("the current frame", x, 0, MIN, 0, 0, 0);
        dueLocals("the caller is left", x, 1, 10, 11, 12, 13);
        x.stepInto();
        dueLocals("what was set comes back", x, 0, 10, 11, MIN, 13);
    }

    // Promise 10 asks for a frame alone, and the frames stand after the end.
    private static void setLocalAfterTheEnd() {
        WovenDebugger x = started(RETURN, 0, 0, JUMP, 0, -1);
        x.resume(1);
        due("setLocal when EXITED", x.setLocal(1, 6), 0);
        due("it is set", x.local(0, 1), 6);
        due("setLocal(4) when EXITED", x.setLocal(4, 6), WovenDebugger.BAD_PLACE);
        dueAt("EXITED stays", x, WovenDebugger.EXITED, 1, 0);
        x.start(1);
        x.resume(1);
        due("setLocal when FAULTED", x.setLocal(3, -6), 0);
        due("it is set", x.local(0, 3), -6);
        dueAt("FAULTED stays", x, WovenDebugger.FAULTED, 1, -1);
    }

    // Promises 12 and 13
    private static void counterOfLevels() {
        WovenDebugger x = started(CALL, 0, 2, RETURN, 0, 0, SET, 0, 0, CALL, 0, 5, RETURN, 0, 0, RETURN, 0, 0);
        x.resume(3);
        due("depth", x.depth(), 3);
        due("counter(0)", x.counter(0), 5);
        due("counter(1)", x.counter(1), 4);
        due("counter(2)", x.counter(2), 1);
        due("counter(3)", x.counter(3), WovenDebugger.BAD_PLACE);
        due("counter(-1)", x.counter(-1), WovenDebugger.BAD_PLACE);
        due("counter(MIN)", x.counter(MIN), WovenDebugger.BAD_PLACE);
        due("counter(MAX)", x.counter(MAX), WovenDebugger.BAD_PLACE);
        x.resume(1);
        due("counter(0) after a return", x.counter(0), 4);
        due("counter(1) after a return", x.counter(1), 1);
        due("counter(2) after a return", x.counter(2), WovenDebugger.BAD_PLACE);
    }

    // Promise 14
    private static void localOfLevels() {
        WovenDebugger x = started(SET, 3, 5, CALL, 3, 2, SET, 1, 6, RETURN, 0, 0);
        x.resume(3);
        dueLocals("the current frame", x, 0, 5, 6, 0, 0);
        dueLocals("the caller", x, 1, 0, 0, 0, 5);
        dueLocals("no such frame", x, 2, 0, 0, 0, 0);
        dueLocals("level -1", x, -1, 0, 0, 0, 0);
        dueLocals("level MIN", x, MIN, 0, 0, 0, 0);
        dueLocals("level MAX", x, MAX, 0, 0, 0, 0);
        due("local(1, -1)", x.local(1, -1), 0);
        due("local(1, 4)", x.local(1, 4), 0);
        due("local(0, -1)", x.local(0, -1), 0);
        due("local(0, MIN)", x.local(0, MIN), 0);
        due("local(0, MAX)", x.local(0, MAX), 0);
    }

    // Promises 15 and 16
    private static void outputsKeepEight() {
        WovenDebugger x = started(ADD, 0, 1, OUT, 0, 0, JUMP, 0, 0);
        x.setLocal(1, 3);
        for (int n = 1; n <= 20; n++) {
            x.resume(3);
            due("outputs after " + n, x.outputs(), n);
            for (int back = 0; back < 8; back++) {
                due("output(" + back + ") after " + n, x.output(back), back < n ? 3 * (n - back) : 0);
            }
            due("output(8) after " + n, x.output(8), 0);
            due("output(-1) after " + n, x.output(-1), 0);
        }
        due("output(MIN)", x.output(MIN), 0);
        due("output(MAX)", x.output(MAX), 0);
        x.start(1);
        due("outputs after a start", x.outputs(), 0);
        due("output(0) after a start", x.output(0), 0);
        x.stepInto();
        due("outputs after one more", x.outputs(), 1);
        due("output(1) after one more", x.output(1), 0);
    }

    // Promise 17
    private static void skipCounts() {
        WovenDebugger x = started(SET, 0, 0, JUMP, 0, 0);
        x.setBreak(1, 100);
        due("skip(1)", x.skip(1), 100);
        due("skip(0)", x.skip(0), WovenDebugger.BAD_PLACE);
        due("skip(2)", x.skip(2), WovenDebugger.BAD_PLACE);
        due("skip(-1)", x.skip(-1), WovenDebugger.BAD_PLACE);
        due("skip(MIN)", x.skip(MIN), WovenDebugger.BAD_PLACE);
        due("skip(MAX)", x.skip(MAX), WovenDebugger.BAD_PLACE);
        due("resume past a hundred", x.resume(300), 201);
        dueAt("resume past a hundred", x, WovenDebugger.AT_BREAK, 1, 1);
        due("none is left", x.skip(1), 0);
    }

    // The terms: the instructions
    private static void arithmetic() {
        WovenDebugger x = started(SET, 0, 7, SET, 1, -3, MOVE, 2, 0, ADD, 2, 1, MOVE, 3, 1, SUB, 3, 0, MUL, 0, 1,
            MUL, 1, 1, SUB, 2, 2, OUT, 3, 0, RETURN, 0, 0);
        x.resume(4);
        dueLocals("SET, MOVE, ADD", x, 0, 7, -3, 4, 0);
        x.resume(4);
        dueLocals("SUB, MUL", x, 0, -21, 9, 4, -10);
        x.resume(2);
        dueLocals("SUB of itself, OUT", x, 0, -21, 9, 0, -10);
        due("OUT", x.output(0), -10);
        due("outputs", x.outputs(), 1);
    }

    private static void wrapping() {
        WovenDebugger x = started(SET, 0, MAX, SET, 1, 1, ADD, 0, 1, SUB, 0, 1, SET, 2, MIN, MUL, 2, 0, MUL, 0, 0,
            RETURN, 0, 0);
        x.resume(3);
        due("MAX + 1", x.local(0, 0), MIN);
        x.resume(1);
        due("MIN - 1", x.local(0, 0), MAX);
        x.resume(2);
        due("MIN * MAX", x.local(0, 2), MIN);
        x.resume(1);
        due("MAX * MAX", x.local(0, 0), 1);
    }

    private static void localsByLowestBits() {
        WovenDebugger x = started(SET, -1, 5, MOVE, 6, 7, ADD, MIN, MAX, MUL, 5, -2, SUB, 4, -6, OUT, 11, 0,
            RETURN, 0, 0);
        x.setLocal(1, 2);
        x.resume(1);
        dueLocals("SET of -1", x, 0, 0, 2, 0, 5);
        x.resume(1);
        dueLocals("MOVE of 6 and 7", x, 0, 0, 2, 5, 5);
        x.resume(1);
        dueLocals("ADD of MIN and MAX", x, 0, 5, 2, 5, 5);
        x.resume(1);
        dueLocals("MUL of 5 and -2", x, 0, 5, 10, 5, 5);
        x.resume(1);
        dueLocals("SUB of 4 and -6", x, 0, 0, 10, 5, 5);
        x.resume(1);
        due("OUT of 11", x.output(0), 5);
    }

    private static void jumps() {
        // L[1] = 4 and L[2] = 5 in each; a names 1 with 2 as 1 + 8, and 2 with 1 as 2 + 4.
        due("JLESS of less", afterJump(JLESS, 9), 3);
        due("JLESS of more", afterJump(JLESS, 6), 1);
        due("JLESS of equal", afterJump(JLESS, 5), 1);
        due("JLESS of higher bits", afterJump(JLESS, 9 + 16), 3);
        due("JLESS of a negative a: 3 with 3", afterJump(JLESS, -1), 1);
        due("JLESS of a negative a: 0 with 2", afterJump(JLESS, -8), 3);
        due("JLESS of a negative number", afterJump(JLESS, 12 + 1, -9), 1);
        due("JLESS with a negative number", afterJump(JLESS, 4 + 3, -9), 3);
        due("JZERO of 0", afterJump(JZERO, 0), 3);
        due("JZERO of 4", afterJump(JZERO, 1), 1);
        due("JZERO of higher bits", afterJump(JZERO, 4), 3);
        due("JZERO of -3, local 1", afterJump(JZERO, -3), 1);
        due("JZERO of a negative number", afterJump(JZERO, 3, -9), 1);
        due("JUMP", afterJump(JUMP, 1), 3);
    }

    private static int afterJump(int op, int a) {
        return afterJump(op, a, 0);
    }

    private static int afterJump(int op, int a, int third) {
        WovenDebugger x = started(op, a, 3, RETURN, 0, 0, RETURN, 0, 0, RETURN, 0, 0);
        x.setLocal(1, 4);
        x.setLocal(2, 5);
        x.setLocal(3, third);
        x.stepInto();
        dueLocals("a jump changes no local", x, 0, 0, 4, 5, third);
        return x.counter(0);
    }

    private static void jumpsOutOfTheProgram() {
        int[] targets = {2, 20, 99, -1, -3, MIN, MAX};
        for (int target : targets) {
            WovenDebugger x = started(JUMP, 0, target, RETURN, 0, 0);
            due("JUMP " + target, x.resume(9), 1);
            dueAt("JUMP " + target, x, WovenDebugger.FAULTED, 1, target);
            WovenDebugger y = started(JZERO, 0, target, RETURN, 0, 0);
            due("stepOver JZERO " + target, y.stepOver(9), 1);
            dueAt("JZERO " + target, y, WovenDebugger.FAULTED, 1, target);
            WovenDebugger z = started(JZERO, 0, target, RETURN, 0, 0);
            z.setLocal(0, 1);
            due("JZERO not taken " + target, z.stepInto(), 1);
            dueAt("JZERO not taken " + target, z, WovenDebugger.STEPPED, 1, 1);
        }
        WovenDebugger x = started(SET, 0, 4, OUT, 0, 0);
        due("past the end", x.resume(9), 2);
        dueAt("past the end", x, WovenDebugger.FAULTED, 1, 2);
        due("the OUT was carried out", x.output(0), 4);
        due("start after a fault", x.start(1), 0);
        dueAt("start after a fault", x, WovenDebugger.READY, 1, 1);
    }

    private static void callsAndReturns() {
        WovenDebugger x = started(CALL, -2, 3, CALL, 1, 3, RETURN, 0, 0, ADD, 0, 0, SET, 1, 77, RETURN, 3, 0);
        x.setLocal(0, 1);
        x.setLocal(1, 2);
        x.setLocal(2, 3);
        x.stepInto();
        dueLocals("the frame called with -2", x, 0, 3, 0, 0, 0);
        x.stepOut(300);
        dueLocals("back from -2", x, 0, 1, 2, 6, 0);
        x.stepInto();
        dueLocals("a frame that stood before is clean", x, 0, 2, 0, 0, 0);
        x.stepOut(300);
        dueLocals("back from 1", x, 0, 1, 4, 6, 0);
        due("exit", x.resume(9), 1);
        dueAt("exit", x, WovenDebugger.EXITED, 1, 2);
        dueLocals("exit", x, 0, 1, 4, 6, 0);
    }

    private static void callsOutOfTheProgram() {
        int[] targets = {2, -1, MIN, MAX};
        for (int target : targets) {
            WovenDebugger x = started(CALL, 1, target, RETURN, 0, 0);
            x.setLocal(1, 8);
            due("CALL " + target, x.stepOver(9), 1);
            dueAt("CALL " + target, x, WovenDebugger.FAULTED, 2, target);
            due("CALL " + target + ": counter(1)", x.counter(1), 1);
            dueLocals("CALL " + target, x, 0, 8, 0, 0, 0);
            dueLocals("CALL " + target, x, 1, 0, 8, 0, 0);
        }
    }

    private static void returnsOutOfTheProgram() {
        WovenDebugger x = started(JUMP, 0, 2, RETURN, 0, 0, CALL, 2, 1);
        x.setLocal(2, 5);
        x.resume(2);
        due("the caller would go on at 3", x.counter(1), 3);
        due("stepOut to nowhere", x.stepOut(9), 1);
        dueAt("stepOut to nowhere", x, WovenDebugger.FAULTED, 1, 3);
        dueLocals("the return was carried out", x, 0, 0, 0, 5, 0);
    }

    private static void sevenFrames() {
        WovenDebugger x = started(ADD, 0, 1, CALL, 0, 0, RETURN, 0, 0);
        x.setLocal(0, 1);
        x.setLocal(1, 1);
        x.setBreak(1, 50);
        due("five calls", x.resume(10), 10);
        dueAt("five calls", x, WovenDebugger.PAUSED, 6, 0);
        due("skips so far", x.skip(1), 45);
        due("the sixth call faults and counts", x.resume(10), 2);
        dueAt("the sixth call", x, WovenDebugger.FAULTED, 6, 1);
        due("no skip at a fault", x.skip(1), 44);
        for (int level = 1; level < 6; level++) {
            due("counter(" + level + ")", x.counter(level), 2);
            due("local(" + level + ", 0)", x.local(level, 0), 2);
        }
        due("counter(6)", x.counter(6), WovenDebugger.BAD_PLACE);

        WovenDebugger y = started(CALL, 0, 0);
        y.resume(5);
        due("stepInto a seventh frame", y.stepInto(), 1);
        dueAt("stepInto a seventh frame", y, WovenDebugger.FAULTED, 6, 0);
    }

    // 512 calls of up to 300 instructions each
    private static void longUse() {
        WovenDebugger x = started(OUT, 0, 0, JUMP, 0, 0);
        for (int i = 0; i < 500; i++) {
            due("long use: resume", x.resume(300), 300);
        }
        due("long use: outputs", x.outputs(), 75000);
        dueAt("long use", x, WovenDebugger.PAUSED, 1, 0);
    }
}
