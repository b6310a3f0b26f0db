// Promises 2, 12 and 13.
public final class LoadTest {
    public static void main(String[] args) {
        everyOpIsKept();
        wrongOpsAreRefused();
        fullCodeRefuses();
        loadTouchesNothingElse();
        wrongReadsOfCode();
        codeMayGrowUnderThreads();
        Check.end();
    }

    private static void everyOpIsKept() {
        AsyncMaskVm vm = new AsyncMaskVm(2, 16);
        int[] someArgs = {0, 1, -1, Integer.MIN_VALUE, Integer.MAX_VALUE, 77};
        for (int op = 0; op <= 15; op++) {
            Check.due("getCodeSize()", vm.getCodeSize(), op);
            Check.due("load(" + op + ")", vm.load(op, someArgs[op % 6]), true);
            Check.due("getCodeSize()", vm.getCodeSize(), op + 1);
        }
        for (int op = 0; op <= 15; op++) {
            Check.due("getCode(" + op + ", 0)", vm.getCode(op, 0), op);
            Check.due("getCode(" + op + ", 1)", vm.getCode(op, 1), someArgs[op % 6]);
        }
    }

    private static void wrongOpsAreRefused() {
        AsyncMaskVm vm = new AsyncMaskVm(2, 8);
        vm.load(AsyncMaskVm.PUSH, 3);
        String before = Snapshot.of(vm);
        int[] wrongOps = {-1, 16, 17, 256, Integer.MIN_VALUE, Integer.MAX_VALUE};
        for (int op : wrongOps) {
            Check.due("load(" + op + ", 0)", vm.load(op, 0), false);
            Check.due("after load(" + op + ", 0)", Snapshot.of(vm), before);
        }
    }

    private static void fullCodeRefuses() {
        AsyncMaskVm vm = new AsyncMaskVm(2, 10);
        for (int i = 0; i < 10; i++) {
            Check.due("load " + i, vm.load(AsyncMaskVm.PUSH, i), true);
        }
        String before = Snapshot.of(vm);
        Check.due("load into full code", vm.load(AsyncMaskVm.NOP, 9), false);
        Check.due("load of a wrong op into full code", vm.load(16, 9), false);
        Check.due("after refused loads", Snapshot.of(vm), before);
        Check.due("getCodeSize()", vm.getCodeSize(), 10);
    }

    private static void loadTouchesNothingElse() {
        Probe p = new Probe("load while running", AsyncMaskVm.BRACKET, 2, AsyncMaskVm.PUSH, 9, AsyncMaskVm.MASK, 1);
        p.spawn(0, 0).run(0, 3).throwTo(0, 4, 5);
        String threads = Snapshot.threads(p.vm);
        String resources = Snapshot.resources(p.vm);
        p.code(AsyncMaskVm.NOP, 0);
        Check.due("threads after load", Snapshot.threads(p.vm), threads);
        Check.due("resources after load", Snapshot.resources(p.vm), resources);
        Check.due("cells before it", p.vm.getCode(1, 1), 9);
    }

    private static void wrongReadsOfCode() {
        AsyncMaskVm vm = new AsyncMaskVm(2, 8);
        Check.due("getCode of no code", vm.getCode(0, 0), -1);
        vm.load(AsyncMaskVm.PUSH, 5);
        vm.load(AsyncMaskVm.HALT, 6);
        String before = Snapshot.of(vm);
        int[] wrongAddresses = {-1, 2, 8, 64, Integer.MIN_VALUE, Integer.MAX_VALUE};
        for (int addr : wrongAddresses) {
            Check.due("getCode(" + addr + ", 0)", vm.getCode(addr, 0), -1);
            Check.due("getCode(" + addr + ", 1)", vm.getCode(addr, 1), -1);
        }
        int[] wrongFields = {-1, 2, 3, Integer.MIN_VALUE, Integer.MAX_VALUE};
        for (int field : wrongFields) {
            Check.due("getCode(0, " + field + ")", vm.getCode(0, field), -1);
        }
        Check.due("after the reads", Snapshot.of(vm), before);
        Check.due("getCode(1, 0)", vm.getCode(1, 0), AsyncMaskVm.HALT);
        Check.due("getCode(1, 1)", vm.getCode(1, 1), 6);
    }

    // A thread that stands behind the end is not blocked until the cell that blocks it is loaded.
    private static void codeMayGrowUnderThreads() {
        Probe p = new Probe("growing code", AsyncMaskVm.BRACKET, 1);
        p.spawn(0, 1).run(0, 1).blocked(1, false);
        p.code(AsyncMaskVm.BRACKET, 1).blocked(1, true).step(1, AsyncMaskVm.BLOCKED);
        p.blocked(0, true).step(0, AsyncMaskVm.BLOCKED);
    }
}
