// A machine under test with the looks that the tests repeat; its name stands before every wrong answer.
final class Probe {
    final AsyncMaskVm vm;
    private final String name;

    Probe(String name, int... cells) {
        this.name = name;
        this.vm = new AsyncMaskVm(4, 64);
        code(cells);
    }

    // Cells are given as op, arg, op, arg, ...
    Probe code(int... cells) {
        for (int i = 0; i < cells.length; i += 2) {
            Check.due(name + ": load(" + cells[i] + ", " + cells[i + 1] + ")", vm.load(cells[i], cells[i + 1]), true);
        }
        return this;
    }

    Probe spawn(int... pcs) {
        for (int pc : pcs) {
            int id = vm.getThreadCount();
            Check.due(name + ": spawn(" + pc + ")", vm.spawn(pc), id);
        }
        return this;
    }

    Probe run(int tid, int steps) {
        for (int i = 0; i < steps; i++) {
            step(tid, AsyncMaskVm.EXECUTED);
        }
        return this;
    }

    Probe step(int tid, int want) {
        Check.due(name + ": step(" + tid + ")", vm.step(tid), want);
        return this;
    }

    Probe stepChangesNothing(int tid, int want) {
        String before = Snapshot.of(vm);
        step(tid, want);
        Check.due(name + ": the machine after step(" + tid + ")", Snapshot.of(vm), before);
        return this;
    }

    Probe throwTo(int tid, int... values) {
        for (int e : values) {
            Check.due(name + ": throwTo(" + tid + ", " + e + ")", vm.throwTo(tid, e), true);
        }
        return this;
    }

    Probe field(int tid, int field, int want) {
        Check.due(name + ": getThread(" + tid + ", " + field + ")", vm.getThread(tid, field), want);
        return this;
    }

    Probe thread(int tid, int state, int pc, int mask, int exit) {
        return field(tid, 0, state).field(tid, 1, pc).field(tid, 2, mask).field(tid, 3, exit);
    }

    Probe alive(int tid, int pc, int mask) {
        return thread(tid, AsyncMaskVm.ALIVE, pc, mask, 0);
    }

    Probe died(int tid, int pc, int mask, int exit) {
        return thread(tid, AsyncMaskVm.DIED, pc, mask, exit).empty(tid);
    }

    Probe done(int tid, int pc, int mask) {
        return thread(tid, AsyncMaskVm.DONE, pc, mask, 0).empty(tid);
    }

    Probe empty(int tid) {
        return stack(tid).frames(tid).pending(tid).blocked(tid, false);
    }

    Probe blocked(int tid, boolean want) {
        return field(tid, 7, want ? 1 : 0);
    }

    Probe stack(int tid, int... cells) {
        field(tid, 4, cells.length);
        for (int i = 0; i < cells.length; i++) {
            Check.due(name + ": getStack(" + tid + ", " + i + ")", vm.getStack(tid, i), cells[i]);
        }
        Check.due(name + ": getStack above the top", vm.getStack(tid, cells.length), 0);
        return this;
    }

    // Frames are given as kind, arg, saved, kind, arg, saved, ...
    Probe frames(int tid, int... cells) {
        field(tid, 5, cells.length / 3);
        for (int i = 0; i < cells.length; i++) {
            String call = ": getFrame(" + tid + ", " + i / 3 + ", " + i % 3 + ")";
            Check.due(name + call, vm.getFrame(tid, i / 3, i % 3), cells[i]);
        }
        Check.due(name + ": getFrame above the top", vm.getFrame(tid, cells.length / 3, 0), 0);
        return this;
    }

    Probe pending(int tid, int... values) {
        field(tid, 6, values.length);
        for (int i = 0; i < values.length; i++) {
            Check.due(name + ": getPending(" + tid + ", " + i + ")", vm.getPending(tid, i), values[i]);
        }
        Check.due(name + ": getPending behind the end", vm.getPending(tid, values.length), 0);
        return this;
    }

    Probe resource(int r, int holder, int acquires, int releases) {
        Check.due(name + ": getResource(" + r + ", 0)", vm.getResource(r, 0), holder);
        Check.due(name + ": getResource(" + r + ", 1)", vm.getResource(r, 1), acquires);
        Check.due(name + ": getResource(" + r + ", 2)", vm.getResource(r, 2), releases);
        return this;
    }
}
