// A machine under test with the looks that the tests repeat; its name stands before every wrong answer.
final class Probe extends Names {
    final AsyncMaskVm vm;
    private final String name;

    private Probe(String name, AsyncMaskVm vm) {
        this.name = name;
        this.vm = vm;
    }

    Probe(String name, int... cells) {
        this(name, new AsyncMaskVm(4, 64));
        code(cells);
    }

    static Probe sized(String name, int threadCap, int codeCap) {
        return new Probe(name, new AsyncMaskVm(threadCap, codeCap));
    }

    // Thread 0 stands blocked at its own bracket, with 3 operands, 2 frames and 2 pending values;
    // thread 1 has all that a thread can hold and is not blocked.
    static Probe busy() {
        Probe p = new Probe("busy", PUSH, 21, PUSH, 22, PUSH, 23, MASK, 1, BRACKET, 5, BRACKET, 5);
        p.repeat(8, PUSH, 31).repeat(8, CATCH, 32).code(NOP, 0);
        return p.spawn(0, 6).run(0, 5).run(1, 16).throwTo(0, 41, 42).throwTo(1, 43, 44, 45, 46);
    }

    // A snapshot can't tell of a change that the first read of a kind makes, for it reads in the same way.
    Probe isStillBusy() {
        alive(0, 5, MASKED).stack(0, 21, 22, 23).frames(0, F_MASK, 1, 0, F_BRACKET, 5, 1).pending(0, 41, 42).blocked(0, true);
        alive(1, 22, UNMASKED).stack(1, 31, 31, 31, 31, 31, 31, 31, 31).pending(1, 43, 44, 45, 46).blocked(1, false);
        frames(1, 1, 32, 0, 1, 32, 0, 1, 32, 0, 1, 32, 0, 1, 32, 0, 1, 32, 0, 1, 32, 0, 1, 32, 0);
        return resource(5, 0, 1, 0).resource(0, -1, 0, 0).resource(7, -1, 0, 0);
    }

    // Cells are given as op, arg, op, arg, ...
    Probe code(int... cells) {
        for (int i = 0; i < cells.length; i += 2) {
            Check.due(name + ": load(" + cells[i] + ", " + cells[i + 1] + ")", vm.load(cells[i], cells[i + 1]), true);
        }
        return this;
    }

    Probe repeat(int times, int op, int arg) {
        for (int i = 0; i < times; i++) {
            code(op, arg);
        }
        return this;
    }

    // Eight cells that take the resources 0 to 7.
    Probe takeAll() {
        for (int r = 0; r < 8; r++) {
            code(BRACKET, r);
        }
        return this;
    }

    Probe spawn(int... pcs) {
        for (int pc : pcs) {
            int id = vm.getThreadCount();
            Check.due(name + ": spawn(" + pc + ")", vm.spawn(pc), id);
        }
        return this;
    }

    Probe run(int tid, int steps) {
        for (int i = 0; i < steps; i++) {
            step(tid, EXECUTED);
        }
        return this;
    }

    Probe step(int tid, int want) {
        Check.due(name + ": step(" + tid + ")", vm.step(tid), want);
        return this;
    }

    Probe throwTo(int tid, int... values) {
        for (int e : values) {
            Check.due(name + ": throwTo(" + tid + ", " + e + ")", vm.throwTo(tid, e), true);
        }
        return this;
    }

    Probe changesNothing(String calls, Runnable run) {
        String before = Snapshot.of(vm);
        run.run();
        Check.due(name + ": the machine after " + calls, Snapshot.of(vm), before);
        return this;
    }

    Probe stepChangesNothing(int tid, int want) {
        return changesNothing("step(" + tid + ")", () -> step(tid, want));
    }

    Probe refusesLoad(int op, int arg) {
        String call = "load(" + op + ", " + arg + ")";
        return changesNothing(call, () -> Check.due(name + ": " + call, vm.load(op, arg), false));
    }

    Probe refusesSpawn(int pc) {
        String call = "spawn(" + pc + ")";
        return changesNothing(call, () -> Check.due(name + ": " + call, vm.spawn(pc), -1));
    }

    Probe refusesThrowTo(int tid, int e) {
        String call = "throwTo(" + tid + ", " + e + ")";
        return changesNothing(call, () -> Check.due(name + ": " + call, vm.throwTo(tid, e), false));
    }

    Probe field(int tid, int field, int want) {
        Check.due(name + ": getThread(" + tid + ", " + field + ")", vm.getThread(tid, field), want);
        return this;
    }

    Probe thread(int tid, int state, int pc, int mask, int exit) {
        return field(tid, 0, state).field(tid, 1, pc).field(tid, 2, mask).field(tid, 3, exit);
    }

    Probe alive(int tid, int pc, int mask) {
        return thread(tid, ALIVE, pc, mask, 0);
    }

    Probe died(int tid, int pc, int mask, int exit) {
        return thread(tid, DIED, pc, mask, exit).empty(tid);
    }

    Probe done(int tid, int pc, int mask) {
        return thread(tid, DONE, pc, mask, 0).empty(tid);
    }

    Probe empty(int tid) {
        return stack(tid).frames(tid).pending(tid).blocked(tid, false);
    }

    Probe depths(int tid, int operands, int frames, int pending) {
        return field(tid, 4, operands).field(tid, 5, frames).field(tid, 6, pending);
    }

    Probe blocked(int tid, boolean want) {
        return field(tid, 7, want ? 1 : 0);
    }

    Probe stack(int tid, int... cells) {
        field(tid, 4, cells.length);
        for (int i = 0; i < cells.length; i++) {
            Check.due(name + ": getStack(" + tid + ", " + i + ")", vm.getStack(tid, i), cells[i]);
        }
        Check.due(name + ": getStack above the top", vm.getStack(tid, cells.length), 0);
        return this;
    }

    // Frames are given as kind, arg, saved, kind, arg, saved, ...
    Probe frames(int tid, int... cells) {
        field(tid, 5, cells.length / 3);
        for (int i = 0; i < cells.length; i++) {
            String call = ": getFrame(" + tid + ", " + i / 3 + ", " + i % 3 + ")";
            Check.due(name + call, vm.getFrame(tid, i / 3, i % 3), cells[i]);
        }
        Check.due(name + ": getFrame above the top", vm.getFrame(tid, cells.length / 3, 0), 0);
        return this;
    }

    Probe pending(int tid, int... values) {
        field(tid, 6, values.length);
        for (int i = 0; i < values.length; i++) {
            Check.due(name + ": getPending(" + tid + ", " + i + ")", vm.getPending(tid, i), values[i]);
        }
        Check.due(name + ": getPending behind the end", vm.getPending(tid, values.length), 0);
        return this;
    }

    Probe resource(int r, int holder, int acquires, int releases) {
        Check.due(name + ": getResource(" + r + ", 0)", vm.getResource(r, 0), holder);
        Check.due(name + ": getResource(" + r + ", 1)", vm.getResource(r, 1), acquires);
        Check.due(name + ": getResource(" + r + ", 2)", vm.getResource(r, 2), releases);
        return this;
    }

    Probe everyResource(int holder, int acquires, int releases) {
        for (int r = 0; r < 8; r++) {
            resource(r, holder, acquires, releases);
        }
        return this;
    }
}
