import java.util.ArrayList;
import java.util.List;
import java.util.Map;
import java.util.TreeMap;
import java.util.function.Supplier;
import java.util.function.ToIntFunction;

/**
 * Each call in each state: the calls that any state allows, the refused ones, after which nothing has changed, and
 * the ones that change nothing at all. "Nothing has changed" is told by a twin that has not been given the call: the
 * two must look alike, and must answer alike whatever is asked of them from then on.
 */
public final class StatesTest extends Checks {
    private static final int BAD_OP = WovenDebugger.BAD_OP;
    private static final int FULL = WovenDebugger.FULL;
    private static final int BAD_PLACE = WovenDebugger.BAD_PLACE;
    private static final int NOT_RUNNING = WovenDebugger.NOT_RUNNING;

    private static final int[] SMALL = {
        CALL, 1, 3, OUT, 1, 0, RETURN, 0, 0, OUT, 0, 0, CALL, 0, 3, RETURN, 0, 0, JUMP, 0, -9};

    private static final int[] NESTED = {
        CALL, 2, 2, RETURN, 0, 0, CALL, 3, 4, RETURN, 0, 0, OUT, 0, 0, RETURN, 0, 0};

    /** A machine in a state; the breakpoints are told here because none of its calls lists them. */
    private record Machine(String name, int state, int size, Map<Integer, Integer> breaks,
                           Supplier<WovenDebugger> made) {
        WovenDebugger make() {
            WovenDebugger x = made.get();
            breaks.forEach(x::setBreak);
            due(name + " is made: state", x.state(), state);
            return x;
        }

        boolean runs() {
            return state != WovenDebugger.NONE && state != WovenDebugger.EXITED && state != WovenDebugger.FAULTED;
        }
    }

    /** A call with the answer that is due. */
    private record Asked(String name, int due, ToIntFunction<WovenDebugger> call) { }

    public static void main(String[] args) {
        for (Machine machine : machines()) {
            for (Asked asked : refused(machine)) {
                dueToChangeNothing(machine, asked);
            }
            for (Asked asked : looks(machine)) {
                dueToChangeNothing(machine, asked);
            }
            starts(machine);
            setsBreaks(machine);
            clearsBreaks(machine);
            setsLocals(machine);
        }
        finish();
    }

    private static List<Machine> machines() {
        Map<Integer, Integer> none = Map.of();
        Map<Integer, Integer> some = new TreeMap<>(Map.of(1, 2, 5, 100));
        Map<Integer, Integer> ends = new TreeMap<>(Map.of(0, 1, 19, 0));
        List<Machine> all = new ArrayList<>();
        all.add(new Machine("new", WovenDebugger.NONE, 0, none, WovenDebugger::new));
        all.add(new Machine("NONE", WovenDebugger.NONE, 7, some, () -> program(SMALL)));
        all.add(new Machine("READY", WovenDebugger.READY, 7, some, () -> started(SMALL)));
        all.add(new Machine("STEPPED", WovenDebugger.STEPPED, 7, some, StatesTest::stepped));
        all.add(new Machine("AT_BREAK", WovenDebugger.AT_BREAK, 7, some, StatesTest::atBreak));
        all.add(new Machine("PAUSED", WovenDebugger.PAUSED, 7, some, StatesTest::paused));
        all.add(new Machine("PAUSED, returning", WovenDebugger.PAUSED, 6, some, StatesTest::nested));
        all.add(new Machine("EXITED", WovenDebugger.EXITED, 7, some, () -> resumed(1, SMALL)));
        all.add(new Machine("FAULTED, six frames", WovenDebugger.FAULTED, 7, none, () -> resumed(0, SMALL)));
        all.add(new Machine("FAULTED, outside", WovenDebugger.FAULTED, 7, some, () -> resumed(6, SMALL)));
        all.add(new Machine("full, NONE", WovenDebugger.NONE, 20, ends, () -> program(full())));
        all.add(new Machine("full, READY", WovenDebugger.READY, 20, ends, () -> started(full())));
        all.add(new Machine("full, EXITED", WovenDebugger.EXITED, 20, ends, () -> resumed(18, full())));
        all.add(new Machine("full, FAULTED", WovenDebugger.FAULTED, 20, ends, () -> resumed(19, full())));
        return all;
    }

    private static WovenDebugger stepped() {
        WovenDebugger x = started(SMALL);
        setLocals(x, 10, 11, 12, 13);
        x.stepInto();
        x.stepInto();
        x.stepInto();
        setLocals(x, 20, 21, 22, 23);
        return x;
    }

    private static WovenDebugger atBreak() {
        WovenDebugger x = started(SMALL);
        x.setLocal(1, 9);
        x.setBreak(4, 0);
        x.resume(300);
        x.clearBreak(4);
        return x;
    }

    private static WovenDebugger paused() {
        WovenDebugger x = started(SMALL);
        setLocals(x, 10, 11, 12, 13);
        x.resume(10);
        setLocals(x, 20, 21, 22, 23);
        return x;
    }

    private static WovenDebugger nested() {
        WovenDebugger x = started(NESTED);
        setLocals(x, 10, 11, 12, 13);
        x.resume(1);
        setLocals(x, 20, 21, 22, 23);
        x.resume(1);
        return x;
    }

    private static WovenDebugger resumed(int p, int... rows) {
        WovenDebugger x = program(rows);
        x.start(p);
        setLocals(x, 10, 11, 12, 13);
        x.resume(300);
        return x;
    }

    /** Twenty instructions, no two alike; 18 exits and 19 goes outside. */
    private static int[] full() {
        int[] rows = new int[60];
        for (int i = 0; i < 18; i++) {
            rows[3 * i] = SET;
            rows[3 * i + 1] = i;
            rows[3 * i + 2] = 50 + i;
        }
        rows[54] = RETURN;
        rows[57] = OUT;
        rows[58] = 3;
        return rows;
    }

    private static List<Asked> refused(Machine m) {
        List<Asked> all = new ArrayList<>();
        for (int op : new int[] {MIN, -11, -1, 11, 12, 265, MAX}) {
            all.add(new Asked("emit(" + op + ", 1, 2)", BAD_OP, x -> x.emit(op, 1, 2)));
        }
        if (m.size == 20 || m.state != WovenDebugger.NONE) {
            for (int op = 0; op <= 10; op++) {
                int given = op;
                all.add(new Asked("emit(" + op + ", 1, 2)", m.size == 20 ? FULL : BAD_PLACE, x -> x.emit(given, 1, 2)));
            }
        }
        for (int p : new int[] {MIN, -20, -1, m.size, m.size + 1, 20, 21, 256, MAX}) {
            all.add(new Asked("start(" + p + ")", BAD_PLACE, x -> x.start(p)));
            for (int skip : new int[] {MIN, -1, 0, 100, 101, MAX}) {
                all.add(new Asked("setBreak(" + p + ", " + skip + ")", BAD_PLACE, x -> x.setBreak(p, skip)));
            }
            all.add(new Asked("clearBreak(" + p + ")", BAD_PLACE, x -> x.clearBreak(p)));
        }
        for (int i = 0; i < m.size; i++) {
            int p = i;
            for (int skip : new int[] {MIN, -1, 101, 256, MAX}) {
                all.add(new Asked("setBreak(" + p + ", " + skip + ")", BAD_OP, x -> x.setBreak(p, skip)));
            }
            if (!m.breaks.containsKey(p)) {
                all.add(new Asked("clearBreak(" + p + ")", BAD_PLACE, x -> x.clearBreak(p)));
            }
        }
        if (!m.runs()) {
            all.add(new Asked("stepInto()", NOT_RUNNING, WovenDebugger::stepInto));
            for (int max : new int[] {MIN, 0, 1, 300, MAX}) {
                all.add(new Asked("resume(" + max + ")", NOT_RUNNING, x -> x.resume(max)));
                all.add(new Asked("stepOver(" + max + ")", NOT_RUNNING, x -> x.stepOver(max)));
                all.add(new Asked("stepOut(" + max + ")", NOT_RUNNING, x -> x.stepOut(max)));
            }
        }
        boolean noFrame = m.state == WovenDebugger.NONE;
        for (int i : new int[] {MIN, -4, -1, 4, 5, 24, MAX}) {
            all.add(new Asked("setLocal(" + i + ", 5)", noFrame ? NOT_RUNNING : BAD_PLACE, x -> x.setLocal(i, 5)));
        }
        for (int i = 0; i < 4 && noFrame; i++) {
            int given = i;
            all.add(new Asked("setLocal(" + i + ", 5)", NOT_RUNNING, x -> x.setLocal(given, 5)));
        }
        return all;
    }

    // "The calls below change nothing."
    private static List<Asked> looks(Machine m) {
        WovenDebugger same = m.make();
        List<Asked> all = new ArrayList<>();
        all.add(new Asked("state()", m.state, WovenDebugger::state));
        all.add(new Asked("depth()", same.depth(), WovenDebugger::depth));
        all.add(new Asked("outputs()", same.outputs(), WovenDebugger::outputs));
        for (int n : new int[] {MIN, -1, 0, 1, 3, 4, 7, 8, 19, 20, MAX}) {
            all.add(new Asked("counter(" + n + ")", same.counter(n), x -> x.counter(n)));
            all.add(new Asked("local(" + n + ", 1)", same.local(n, 1), x -> x.local(n, 1)));
            all.add(new Asked("local(0, " + n + ")", same.local(0, n), x -> x.local(0, n)));
            all.add(new Asked("output(" + n + ")", same.output(n), x -> x.output(n)));
            all.add(new Asked("skip(" + n + ")", m.breaks.getOrDefault(n, BAD_PLACE), x -> x.skip(n)));
        }
        return all;
    }

    private static void dueToChangeNothing(Machine machine, Asked asked) {
        WovenDebugger x = machine.make();
        WovenDebugger twin = machine.make();
        String what = machine.name + ": " + asked.name;
        due(what, asked.call.applyAsInt(x), asked.due);
        due(what + ": state after it", x.state(), machine.state);
        due(what + ": look after it", look(x), look(twin));
        due(what + ": run on", runOn(x), runOn(twin));
        due(what + ": breakpoints", countBreaks(x), countBreaks(twin));
        if (machine.state == WovenDebugger.NONE && machine.size < 20) {
            due(what + ": emit after it", x.emit(OUT, 1, 1), twin.emit(OUT, 1, 1));
        }
        due(what + ": program", tryEachInstruction(x), tryEachInstruction(twin));
    }

    private static String runOn(WovenDebugger x) {
        return x.stepInto() + " " + briefly(x) + ", " + x.stepOut(300) + " " + briefly(x) + ", "
            + x.stepOut(300) + " " + briefly(x);
    }

    private static String countBreaks(WovenDebugger x) {
        StringBuilder s = new StringBuilder();
        s.append(x.setBreak(0, 7));
        for (int p = 0; p < 20; p++) {
            s.append(' ').append(x.clearBreak(p));
        }
        return s.toString();
    }

    private static String tryEachInstruction(WovenDebugger x) {
        StringBuilder s = new StringBuilder();
        for (int p = 0; p < 20; p++) {
            s.append(x.start(p));
            for (int i = 0; i < 4; i++) {
                x.setLocal(i, 30 + i);
            }
            s.append(' ').append(x.stepInto()).append(' ').append(briefly(x)).append(", ");
        }
        return s.toString();
    }

    private static String briefly(WovenDebugger x) {
        return x.state() + " " + x.depth() + " " + x.counter(0) + " " + x.outputs() + " " + x.output(0)
            + " " + x.local(0, 0) + " " + x.local(0, 1) + " " + x.local(0, 2) + " " + x.local(0, 3);
    }

    // "Starts anew at instruction p: one frame, all its locals 0, counter p, empty output, state READY.
    // Breakpoints stay."
    private static void starts(Machine m) {
        for (int p = 0; p < m.size; p++) {
            WovenDebugger x = m.make();
            String what = m.name + ": start(" + p + ")";
            due(what, x.start(p), 0);
            dueAt(what, x, WovenDebugger.READY, 1, p);
            dueLocals(what, x, 0, 0, 0, 0, 0);
            dueLocals(what, x, 1, 0, 0, 0, 0);
            due(what + ": counter(1)", x.counter(1), BAD_PLACE);
            due(what + ": outputs", x.outputs(), 0);
            for (int back = 0; back < 8; back++) {
                due(what + ": output(" + back + ")", x.output(back), 0);
            }
            dueBreaks(what, x, m.breaks);
        }
    }

    // "Sets a breakpoint with a skip count, also instead of one that stands there, in any state."
    private static void setsBreaks(Machine m) {
        for (int p = 0; p < m.size; p++) {
            for (int skip : new int[] {0, 1, 99, 100}) {
                WovenDebugger x = m.make();
                Map<Integer, Integer> want = new TreeMap<>(m.breaks);
                want.put(p, skip);
                String what = m.name + ": setBreak(" + p + ", " + skip + ")";
                due(what, x.setBreak(p, skip), want.size());
                due(what + ": state", x.state(), m.state);
                dueBreaks(what, x, want);
                due(what + ": the rest", withoutSkips(x), withoutSkips(m.make()));
            }
        }
    }

    // "Takes a breakpoint away. ... Else answers how many there are."
    private static void clearsBreaks(Machine m) {
        for (int p : m.breaks.keySet()) {
            WovenDebugger x = m.make();
            Map<Integer, Integer> want = new TreeMap<>(m.breaks);
            want.remove(p);
            String what = m.name + ": clearBreak(" + p + ")";
            due(what, x.clearBreak(p), want.size());
            due(what + ": state", x.state(), m.state);
            dueBreaks(what, x, want);
            due(what + " again", x.clearBreak(p), BAD_PLACE);
            due(what + ": the rest", withoutSkips(x), withoutSkips(m.make()));
            due(what + ": set again", x.setBreak(p, 0), m.breaks.size());
        }
    }

    // "Sets a local (0 to 3) of the current frame. There is no frame: NOT_RUNNING ... Else answers 0."
    // "After EXITED or FAULTED the frames stand as they were left": there is a frame then, so it sets.
    private static void setsLocals(Machine m) {
        for (int i = 0; i < 4 && m.state != WovenDebugger.NONE; i++) {
            for (int value : new int[] {MIN, -1, 0, 1, MAX}) {
                WovenDebugger x = m.make();
                int[] want = {x.local(0, 0), x.local(0, 1), x.local(0, 2), x.local(0, 3)};
                int before = want[i];
                want[i] = value;
                String what = m.name + ": setLocal(" + i + ", " + value + ")";
                due(what, x.setLocal(i, value), 0);
                due(what + ": state", x.state(), m.state);
                dueLocals(what, x, 0, want);
                x.setLocal(i, before);
                due(what + ": the rest", look(x), look(m.make()));
            }
        }
    }

    private static void dueBreaks(String what, WovenDebugger x, Map<Integer, Integer> want) {
        for (int p = 0; p < 20; p++) {
            due(what + ": skip(" + p + ")", x.skip(p), want.getOrDefault(p, BAD_PLACE));
        }
    }

    private static String withoutSkips(WovenDebugger x) {
        String all = look(x);
        return all.substring(0, all.indexOf(" | skips"));
    }
}
