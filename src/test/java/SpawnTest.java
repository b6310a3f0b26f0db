// Promises 3 and 6.
public final class SpawnTest {
    public static void main(String[] args) {
        idsInOrder();
        newThreadIsEmpty();
        fullRefuses();
        slotsAreNotReused();
        spawnTouchesNothingElse();
        Check.end();
    }

    private static void idsInOrder() {
        AsyncMaskVm vm = new AsyncMaskVm(4, 8);
        for (int id = 0; id < 4; id++) {
            Check.due("getThreadCount()", vm.getThreadCount(), id);
            Check.due("spawn", vm.spawn(0), id);
            Check.due("getThreadCount()", vm.getThreadCount(), id + 1);
        }
    }

    private static void newThreadIsEmpty() {
        int[] pcs = {0, -1, Integer.MAX_VALUE, Integer.MIN_VALUE};
        Probe p = new Probe("new thread");
        p.spawn(pcs);
        for (int id = 0; id < 4; id++) {
            p.alive(id, pcs[id], AsyncMaskVm.UNMASKED).empty(id);
        }
    }

    private static void fullRefuses() {
        for (int cap = 2; cap <= 4; cap++) {
            AsyncMaskVm vm = new AsyncMaskVm(cap, 8);
            for (int id = 0; id < cap; id++) {
                vm.spawn(id);
            }
            String before = Snapshot.of(vm);
            Check.due("spawn beyond " + cap, vm.spawn(5), -1);
            Check.due("after it", Snapshot.of(vm), before);
            Check.due("getThreadCount()", vm.getThreadCount(), cap);
        }
    }

    private static void slotsAreNotReused() {
        AsyncMaskVm vm = new AsyncMaskVm(2, 8);
        vm.load(AsyncMaskVm.HALT, 0);
        vm.spawn(0);
        vm.step(0);
        Check.due("spawn after a halt", vm.spawn(0), 1);
        vm.step(1);
        Check.due("spawn after two halts", vm.spawn(0), -1);
        Check.due("getThreadCount()", vm.getThreadCount(), 2);
    }

    private static void spawnTouchesNothingElse() {
        Probe p = new Probe("spawn while running", AsyncMaskVm.BRACKET, 2, AsyncMaskVm.PUSH, 9, AsyncMaskVm.MASK, 1);
        p.spawn(0).run(0, 3).throwTo(0, 4, 5);
        String code = Snapshot.code(p.vm);
        String thread = Snapshot.thread(p.vm, 0);
        String resources = Snapshot.resources(p.vm);
        p.spawn(1);
        Check.due("code after spawn", Snapshot.code(p.vm), code);
        Check.due("thread 0 after spawn", Snapshot.thread(p.vm, 0), thread);
        Check.due("resources after spawn", Snapshot.resources(p.vm), resources);
        p.alive(1, 1, AsyncMaskVm.UNMASKED).empty(1);
    }
}
