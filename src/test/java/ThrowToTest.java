// Promises 5 and 10.
public final class ThrowToTest {
    public static void main(String[] args) {
        appendsAtTheEnd();
        wrongThreadsAreRefused();
        finishedThreadsAreRefused();
        fullQueueRefuses();
        everyMaskTakes();
        nothingElseChanges();
        wrongReadsOfPending();
        Check.end();
    }

    private static void appendsAtTheEnd() {
        Probe p = new Probe("append", AsyncMaskVm.NOP, 0);
        p.spawn(0, 0).pending(1);
        p.throwTo(1, Integer.MIN_VALUE).pending(1, Integer.MIN_VALUE);
        p.throwTo(1, 0).throwTo(1, -1).throwTo(1, Integer.MAX_VALUE);
        p.pending(1, Integer.MIN_VALUE, 0, -1, Integer.MAX_VALUE).pending(0);
        p.alive(1, 0, 0).stack(1).frames(1);
    }

    private static void refused(AsyncMaskVm vm, int tid) {
        String before = Snapshot.of(vm);
        Check.due("throwTo(" + tid + ", 5)", vm.throwTo(tid, 5), false);
        Check.due("after refused throwTo(" + tid + ", 5)", Snapshot.of(vm), before);
    }

    private static void wrongThreadsAreRefused() {
        AsyncMaskVm vm = new AsyncMaskVm(4, 8);
        refused(vm, 0);
        vm.spawn(0);
        vm.spawn(0);
        int[] wrongIds = {-1, 2, 3, 4, Integer.MIN_VALUE, Integer.MAX_VALUE};
        for (int tid : wrongIds) {
            refused(vm, tid);
        }
    }

    private static void finishedThreadsAreRefused() {
        Probe p = new Probe("finished", AsyncMaskVm.HALT, 0, AsyncMaskVm.POP, 0);
        p.spawn(0, 1).run(0, 1).run(1, 1);
        refused(p.vm, 0);
        refused(p.vm, 1);
    }

    private static void fullQueueRefuses() {
        Probe p = new Probe("full", AsyncMaskVm.CATCH, 0);
        p.spawn(0).run(0, 1).throwTo(0, 1, 2, 3, 4);
        refused(p.vm, 0);
        p.step(0, AsyncMaskVm.DELIVERED).pending(0, 2, 3, 4).throwTo(0, 9).pending(0, 2, 3, 4, 9);
        refused(p.vm, 0);
    }

    private static void everyMaskTakes() {
        for (int m = 0; m <= 2; m++) {
            Probe p = new Probe("mask " + m, AsyncMaskVm.MASK, m);
            p.spawn(0).run(0, 1).throwTo(0, 1, 2).alive(0, 1, m).pending(0, 1, 2);
        }
    }

    private static void nothingElseChanges() {
        Probe p = new Probe("nothing else", AsyncMaskVm.BRACKET, 2, AsyncMaskVm.PUSH, 9, AsyncMaskVm.MASK, 1);
        p.spawn(0, 0).run(0, 3);
        String other = Snapshot.thread(p.vm, 1);
        String resources = Snapshot.resources(p.vm);
        p.throwTo(0, 5).alive(0, 3, 1).stack(0, 9).frames(0, 3, 2, 0, 2, 1, 0).pending(0, 5);
        Check.due("the other thread", Snapshot.thread(p.vm, 1), other);
        Check.due("resources", Snapshot.resources(p.vm), resources);
    }

    private static void wrongReadsOfPending() {
        Probe p = new Probe("reads of pending", AsyncMaskVm.NOP, 0);
        p.spawn(0, 0).throwTo(0, 7, 8).throwTo(1, 9, 9, 9, 9);
        String before = Snapshot.of(p.vm);
        int[] wrongIds = {-1, 2, 3, 4, Integer.MIN_VALUE, Integer.MAX_VALUE};
        for (int tid : wrongIds) {
            Check.due("getPending(" + tid + ", 0)", p.vm.getPending(tid, 0), 0);
        }
        int[] wrongPlaces = {-1, -4, 2, 3, 4, Integer.MIN_VALUE, Integer.MAX_VALUE};
        for (int i : wrongPlaces) {
            Check.due("getPending(0, " + i + ")", p.vm.getPending(0, i), 0);
        }
        Check.due("getPending(1, -1)", p.vm.getPending(1, -1), 0);
        Check.due("after the reads", Snapshot.of(p.vm), before);
    }
}
