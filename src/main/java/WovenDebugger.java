/** A debugger for a small machine; README.md says how it is used. */
public final class WovenDebugger {
    public static final int BAD_OP = -1;
    public static final int FULL = -2;
    public static final int BAD_PLACE = -3;
    public static final int NOT_RUNNING = -4;
    public static final int NONE = 0;
    public static final int READY = 1;
    public static final int STEPPED = 2;
    public static final int AT_BREAK = 3;
    public static final int PAUSED = 4;
    public static final int EXITED = 5;
    public static final int FAULTED = 6;

    private static final int OP_SET = 0;
    private static final int OP_MOVE = 1;
    private static final int OP_ADD = 2;
    private static final int OP_SUB = 3;
    private static final int OP_MUL = 4;
    private static final int OP_JUMP = 5;
    private static final int OP_JLESS = 6;
    private static final int OP_JZERO = 7;
    private static final int OP_CALL = 8;
    private static final int OP_RETURN = 9;
    private static final int OP_OUT = 10;

    private static final int MOST_INSTRUCTIONS = 20;
    private static final int MOST_FRAMES = 6;
    private static final int LOCALS = 4;
    private static final int LOCAL_MASK = LOCALS - 1;
    private static final int MOST_LOCALS = MOST_FRAMES * LOCALS;
    private static final int MOST_SKIP = 100;
    private static final int MOST_STEPS = 300;
    // Only the last eight values can be asked for, so older ones are written over.
    private static final int KEPT_OUTPUTS = 8;
    private static final int OUTPUT_MASK = KEPT_OUTPUTS - 1;

    // A command stops, STEPPED, once no more frames stand than its goal allows:
    // at least one frame always stands, and never more than six.
    private static final int GOAL_NEVER = 0;
    private static final int GOAL_AT_ONCE = MOST_FRAMES;

    private final int[] ops = new int[MOST_INSTRUCTIONS];
    private final int[] firsts = new int[MOST_INSTRUCTIONS];
    private final int[] seconds = new int[MOST_INSTRUCTIONS];
    private int size = 0;

    private final boolean[] breakStands = new boolean[MOST_INSTRUCTIONS];
    private final int[] breakSkips = new int[MOST_INSTRUCTIONS];
    private int breakCount = 0;

    // Frame 0 is the oldest; the counter of a frame that waits is where it goes on.
    private final int[] counters = new int[MOST_FRAMES];
    private final int[] resultLocals = new int[MOST_FRAMES];
    private final int[] locals = new int[MOST_LOCALS];
    private int frames = 0;

    private final int[] lastOutputs = new int[KEPT_OUTPUTS];
    private int outputCount = 0;

    private int machineState = NONE;

    public WovenDebugger() {
    }

    public int emit(int op, int a, int b) {
        if (op < OP_SET || op > OP_OUT) {
            return BAD_OP;
        }
        if (size >= MOST_INSTRUCTIONS) {
            return FULL;
        }
        if (machineState != NONE) {
            return BAD_PLACE;
        }
        int number = size;
        ops[number] = op;
        firsts[number] = a;
        seconds[number] = b;
        size = number + 1;
        return number;
    }

    public int start(int p) {
        if (!isInstruction(p)) {
            return BAD_PLACE;
        }
        frames = 0;
        addFrame(p, 0);
        outputCount = 0;
        machineState = READY;
        return 0;
    }

    public int setBreak(int p, int skip) {
        if (!isInstruction(p)) {
            return BAD_PLACE;
        }
        if (skip < 0 || skip > MOST_SKIP) {
            return BAD_OP;
        }
        if (!breakStands[p]) {
            breakStands[p] = true;
            breakCount++;
        }
        breakSkips[p] = skip;
        return breakCount;
    }

    public int clearBreak(int p) {
        if (!hasBreak(p)) {
            return BAD_PLACE;
        }
        breakStands[p] = false;
        breakCount--;
        return breakCount;
    }

    public int resume(int max) {
        return runCommand(max, GOAL_NEVER);
    }

    public int stepInto() {
        return runCommand(1, GOAL_AT_ONCE);
    }

    public int stepOver(int max) {
        return runCommand(max, frames);
    }

    public int stepOut(int max) {
        return runCommand(max, frames - 1);
    }

    // Only a missing frame forbids this: the frames still stand after EXITED or FAULTED.
    public int setLocal(int i, int value) {
        if (frames == 0) {
            return NOT_RUNNING;
        }
        if (!isLocal(i)) {
            return BAD_PLACE;
        }
        locals[(frames - 1) * LOCALS + i] = value;
        return 0;
    }

    public int state() {
        return machineState;
    }

    public int depth() {
        return frames;
    }

    public int counter(int level) {
        return hasLevel(level) ? counters[frames - 1 - level] : BAD_PLACE;
    }

    public int local(int level, int i) {
        if (!hasLevel(level) || !isLocal(i)) {
            return 0;
        }
        return locals[(frames - 1 - level) * LOCALS + i];
    }

    public int outputs() {
        return outputCount;
    }

    public int output(int back) {
        if (back < 0 || back >= KEPT_OUTPUTS || back >= outputCount) {
            return 0;
        }
        return lastOutputs[(outputCount - 1 - back) & OUTPUT_MASK];
    }

    public int skip(int p) {
        return hasBreak(p) ? breakSkips[p] : BAD_PLACE;
    }

    private boolean isInstruction(int p) {
        return p >= 0 && p < size;
    }

    private boolean hasBreak(int p) {
        return isInstruction(p) && breakStands[p];
    }

    private boolean hasLevel(int level) {
        return level >= 0 && level < frames;
    }

    private boolean isLocal(int i) {
        return i >= 0 && i < LOCALS;
    }

    private boolean canRun() {
        return machineState != NONE && machineState != EXITED && machineState != FAULTED;
    }

    private int runCommand(int max, int goalFrames) {
        if (!canRun()) {
            return NOT_RUNNING;
        }
        int most = max < 1 ? 1 : (max > MOST_STEPS ? MOST_STEPS : max);
        for (int done = 1; done <= most; done++) {
            carryOutNext();
            if (!canRun()) {
                return done;
            }
            if (frames <= goalFrames) {
                machineState = STEPPED;
                return done;
            }
            if (stopsAtBreak()) {
                machineState = AT_BREAK;
                return done;
            }
        }
        machineState = PAUSED;
        return most;
    }

    private boolean stopsAtBreak() {
        int p = counters[frames - 1];
        if (!hasBreak(p)) {
            return false;
        }
        if (breakSkips[p] == 0) {
            return true;
        }
        breakSkips[p]--;
        return false;
    }

    // While the machine can run, its counter is an instruction's number: start and goTo see to it.
    private void carryOutNext() {
        int p = counters[frames - 1];
        int op = ops[p];
        if (op == OP_CALL) {
            enterFrame(p);
        } else if (op == OP_RETURN) {
            leaveFrame();
        } else if (op == OP_JUMP || op == OP_JLESS || op == OP_JZERO) {
            jump(p);
        } else {
            compute(p);
        }
    }

    private void enterFrame(int p) {
        if (frames >= MOST_FRAMES) {
            machineState = FAULTED;
            return;
        }
        int caller = frames - 1;
        int named = firsts[p] & LOCAL_MASK;
        counters[caller] = p + 1;
        resultLocals[caller] = named;
        int target = seconds[p];
        addFrame(target, locals[caller * LOCALS + named]);
        goTo(target);
    }

    private void leaveFrame() {
        if (frames == 1) {
            machineState = EXITED;
            return;
        }
        int result = locals[(frames - 1) * LOCALS];
        frames--;
        int caller = frames - 1;
        locals[caller * LOCALS + resultLocals[caller]] = result;
        goTo(counters[caller]);
    }

    private void jump(int p) {
        int base = (frames - 1) * LOCALS;
        int a = firsts[p];
        int left = locals[base + (a & LOCAL_MASK)];
        int right = locals[base + ((a >> 2) & LOCAL_MASK)];
        int op = ops[p];
        boolean taken = op == OP_JUMP
            || (op == OP_JLESS && left < right)
            || (op == OP_JZERO && left == 0);
        goTo(taken ? seconds[p] : p + 1);
    }

    private void compute(int p) {
        int base = (frames - 1) * LOCALS;
        int target = base + (firsts[p] & LOCAL_MASK);
        int operand = locals[base + (seconds[p] & LOCAL_MASK)];
        switch (ops[p]) {
            case OP_SET:
                locals[target] = seconds[p];
                break;
            case OP_MOVE:
                locals[target] = operand;
                break;
            case OP_ADD:
                locals[target] += operand;
                break;
            case OP_SUB:
                locals[target] -= operand;
                break;
            case OP_MUL:
                locals[target] *= operand;
                break;
            default:
                appendOutput(locals[target]);
                break;
        }
        goTo(p + 1);
    }

    private void addFrame(int p, int argument) {
        int base = frames * LOCALS;
        locals[base] = argument;
        for (int i = 1; i < LOCALS; i++) {
            locals[base + i] = 0;
        }
        counters[frames] = p;
        frames++;
    }

    private void goTo(int p) {
        counters[frames - 1] = p;
        if (!isInstruction(p)) {
            machineState = FAULTED;
        }
    }

    private void appendOutput(int value) {
        lastOutputs[outputCount & OUTPUT_MASK] = value;
        outputCount++;
    }
}
