// Promises 2, 12 and 13, and what the terms say of code.
public final class LoadTest extends Names {
    private static final int[] WRONG_OPS = {MIN, -16, -1, 16, 17, 256, MAX};
    private static final int[] ARGS = {MIN, -1, 0, 1, 2, 3, 7, 8, 64, MAX};

    public static void main(String[] args) {
        Check.sentence("`load(op, arg)` appends cell `(op, arg)` at address `codeSize`.", LoadTest::appends);
        Check.sentence("`codeSize == codeCap`: answers false.", LoadTest::fullCodeRefuses);
        Check.sentence("`op` not in 0..15: answers false.", LoadTest::wrongOpsAreRefused);
        Check.sentence("A refused call changes nothing.", LoadTest::refusedLoadChangesNothing);
        Check.sentence("`arg` is any int and is kept exactly as given.", LoadTest::argIsKept);
        Check.sentence("Existing cells never change, and no thread, stack, frame, queue or resource is touched.",
                LoadTest::loadTouchesNothingElse);
        Check.sentence("Loading is allowed at any time, including after threads have started running.", LoadTest::anyTime);
        Check.sentence("A list of `codeSize` cells, `0 <= codeSize <= codeCap`.", LoadTest::sizeKeepsToItsBounds);
        Check.sentence("addresses run `0..codeSize-1`", LoadTest::firstAndLastAddress);
        Check.sentence("The list is append-only, shared by all threads, and may grow while threads run.", LoadTest::isShared);
        Check.sentence("the number of cells loaded so far (0 at the start, at most `codeCap`)", LoadTest::codeSize);
        Check.sentence("field 0 the op and field 1 the arg exactly as loaded", LoadTest::readsOfCode);
        Check.sentence("It answers -1 if `addr` is not in `[0,codeSize)`", LoadTest::wrongAddresses);
        Check.sentence("or `field` is not 0 or 1", LoadTest::wrongFields);
        Check.sentence("(0 at the start, at most `codeCap`). It changes nothing.", LoadTest::sizeReaderChangesNothing);
        Check.sentence("or `field` is not 0 or 1. It changes nothing.", LoadTest::codeReaderChangesNothing);
        Check.end();
    }

    private static void cell(AsyncMaskVm vm, int addr, int op, int arg) {
        Check.due("getCode(" + addr + ", 0)", vm.getCode(addr, 0), op);
        Check.due("getCode(" + addr + ", 1)", vm.getCode(addr, 1), arg);
    }

    private static void appends() {
        Probe p = new Probe("every op");
        for (int op = 0; op <= 15; op++) {
            Check.due("getCodeSize()", p.vm.getCodeSize(), op);
            p.code(op, 100 + op);
            cell(p.vm, op, op, 100 + op);
            Check.due("getCodeSize()", p.vm.getCodeSize(), op + 1);
        }
    }

    private static void fullCodeRefuses() {
        for (int codeCap = 8; codeCap <= 64; codeCap++) {
            Probe p = Probe.sized("code of " + codeCap, 2, codeCap);
            p.repeat(codeCap, PUSH, 5).refusesLoad(PUSH, 5).refusesLoad(HALT, 0).refusesLoad(16, 0).refusesLoad(-1, 0);
        }
    }

    private static void wrongOpsAreRefused() {
        Probe p = new Probe("ops");
        for (int op : WRONG_OPS) {
            p.refusesLoad(op, 0);
        }
        p.code(NOP, 0, HALT, 0);
    }

    private static void refusedLoadChangesNothing() {
        Probe p = Probe.busy();
        for (int op : WRONG_OPS) {
            p.refusesLoad(op, 77);
        }
        int size = p.vm.getCodeSize();
        p.code(PUSH, 78);
        cell(p.vm, size, PUSH, 78);
        p.repeat(64 - p.vm.getCodeSize(), NOP, 0).refusesLoad(PUSH, 77).refusesLoad(16, 77);
        cell(p.vm, 63, NOP, 0);
    }

    private static void argIsKept() {
        for (int op = 0; op <= 15; op++) {
            Probe p = new Probe("args of " + op);
            for (int i = 0; i < ARGS.length; i++) {
                p.code(op, ARGS[i]);
                cell(p.vm, i, op, ARGS[i]);
            }
        }
    }

    private static void loadTouchesNothingElse() {
        Probe p = Probe.busy();
        String threads = Snapshot.threads(p.vm);
        String resources = Snapshot.resources(p.vm);
        int size = p.vm.getCodeSize();
        String[] cells = new String[size];
        for (int addr = 0; addr < size; addr++) {
            cells[addr] = p.vm.getCode(addr, 0) + ":" + p.vm.getCode(addr, 1);
        }
        p.repeat(64 - size, MASK, 9);
        for (int addr = 0; addr < size; addr++) {
            Check.due("cell " + addr, p.vm.getCode(addr, 0) + ":" + p.vm.getCode(addr, 1), cells[addr]);
        }
        Check.due("threads after load", Snapshot.threads(p.vm), threads);
        Check.due("resources after load", Snapshot.resources(p.vm), resources);
    }

    private static void anyTime() {
        Probe running = new Probe("a thread at the end of the code", NOP, 0);
        running.spawn(0).run(0, 1).alive(0, 1, UNMASKED).code(PUSH, 6).run(0, 1).alive(0, 2, UNMASKED).stack(0, 6);
        Probe finished = new Probe("no thread is alive", HALT, 0);
        finished.spawn(0, 7).run(0, 1).run(1, 1).code(NOP, 0).done(0, 1, UNMASKED).died(1, 7, UNMASKED, E_BADPC);
        Probe ahead = new Probe("spawned before there was code");
        ahead.spawn(0).code(PUSH, 7).run(0, 1).alive(0, 1, UNMASKED).stack(0, 7);
        Probe stuck = new Probe("a blocked thread", BRACKET, 1, BRACKET, 1);
        stuck.spawn(0).run(0, 1).blocked(0, true).code(NOP, 0).blocked(0, true).step(0, BLOCKED);
    }

    private static void sizeKeepsToItsBounds() {
        for (int codeCap = 8; codeCap <= 64; codeCap++) {
            Probe p = Probe.sized("code of " + codeCap, 2, codeCap);
            Check.due("getCodeSize()", p.vm.getCodeSize(), 0);
            for (int i = 0; i < 200; i++) {
                p.vm.load(i % 18 - 1, i);
            }
            Check.due("getCodeSize()", p.vm.getCodeSize(), codeCap);
        }
    }

    private static void firstAndLastAddress() {
        for (int codeCap : new int[] {8, 33, 64}) {
            Probe p = Probe.sized("code of " + codeCap, 4, codeCap).code(PUSH, 5).repeat(codeCap - 2, NOP, 0).code(PUSH, 6);
            p.spawn(0, codeCap - 1, -1, codeCap).run(0, 1).alive(0, 1, UNMASKED).stack(0, 5);
            p.run(1, 1).alive(1, codeCap, UNMASKED).stack(1, 6);
            p.run(2, 1).died(2, -1, UNMASKED, E_BADPC).run(3, 1).died(3, codeCap, UNMASKED, E_BADPC);
        }
    }

    // A thread that stands behind the end is not blocked until the cell that blocks it is loaded.
    private static void isShared() {
        Probe p = new Probe("growing code", BRACKET, 1);
        p.spawn(0, 1).run(0, 1).blocked(0, false).blocked(1, false);
        p.code(BRACKET, 1).blocked(0, true).blocked(1, true).step(0, BLOCKED).step(1, BLOCKED);
    }

    private static void codeSize() {
        for (int codeCap = 8; codeCap <= 64; codeCap += 28) {
            Probe p = Probe.sized("code of " + codeCap, 2, codeCap);
            for (int size = 0; size < codeCap; size++) {
                Check.due("getCodeSize()", p.vm.getCodeSize(), size);
                p.refusesLoad(16, 0).code(NOP, 0);
            }
            Check.due("getCodeSize()", p.vm.getCodeSize(), codeCap);
            p.refusesLoad(NOP, 0);
            Check.due("getCodeSize()", p.vm.getCodeSize(), codeCap);
        }
    }

    private static void readsOfCode() {
        Probe p = new Probe("full code");
        for (int addr = 0; addr < 64; addr++) {
            p.code(addr % 16, 1000 - addr);
        }
        for (int addr = 0; addr < 64; addr++) {
            cell(p.vm, addr, addr % 16, 1000 - addr);
        }
    }

    private static void outside(AsyncMaskVm vm, int... addresses) {
        for (int addr : addresses) {
            for (int field = -1; field <= 2; field++) {
                Check.due("getCode(" + addr + ", " + field + ")", vm.getCode(addr, field), -1);
            }
        }
    }

    private static void wrongAddresses() {
        Probe p = new Probe("growing");
        for (int size = 0; size < 64; size++) {
            outside(p.vm, MIN, -1, size, size + 1, 63, 64, MAX);
            p.code(PUSH, 5);
            cell(p.vm, 0, PUSH, 5);
            cell(p.vm, size, PUSH, 5);
        }
        outside(p.vm, MIN, -64, -1, 64, 65, 128, MAX);
    }

    private static void wrongFields() {
        Probe p = new Probe("fields", PUSH, 5, HALT, 6);
        for (int field : new int[] {MIN, -1, 2, 3, MAX}) {
            Check.due("getCode(0, " + field + ")", p.vm.getCode(0, field), -1);
            Check.due("getCode(1, " + field + ")", p.vm.getCode(1, field), -1);
        }
    }

    private static void sizeReaderChangesNothing() {
        Probe p = Probe.busy();
        p.changesNothing("getCodeSize()", p.vm::getCodeSize).isStillBusy();
        Check.due("getCodeSize()", p.vm.getCodeSize(), 23);
    }

    private static void codeReaderChangesNothing() {
        Probe p = Probe.busy();
        p.changesNothing("reads of code", () -> {
            for (int addr : new int[] {MIN, -1, 0, 1, 5, 22, 23, 63, 64, MAX}) {
                for (int field : new int[] {MIN, -1, 0, 1, 2, MAX}) {
                    p.vm.getCode(addr, field);
                }
            }
        }).isStillBusy();
        cell(p.vm, 0, PUSH, 21);
        cell(p.vm, 22, NOP, 0);
    }
}
