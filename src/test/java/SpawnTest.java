// Promises 3 and 6, and what the terms say of thread ids.
public final class SpawnTest extends Names {
    private static final int[] PCS = {MIN, -1, 0, 1, 63, 64, MAX};

    public static void main(String[] args) {
        Check.sentence("if `threadCount == threadCap`, it answers -1 and changes nothing", SpawnTest::fullRefuses);
        Check.sentence("pc equal to the given `pc` (any int, not examined)", SpawnTest::anyPc);
        Check.sentence("state ALIVE, pc equal to the given `pc` (any int, not examined), mask UNMASKED, exit 0, and "
                + "empty operand stack, frame stack and pending queue", SpawnTest::newThreadIsEmpty);
        Check.sentence("then `threadCount += 1` and the answer is the id", SpawnTest::idsInOrder);
        Check.sentence("Every other thread, the code and the resources are unchanged.", SpawnTest::spawnTouchesNothingElse);
        Check.sentence("slots are never reused", SpawnTest::slotsAreNotReused);
        Check.sentence("the number of threads spawned so far (0 at the start, at most `threadCap`)", SpawnTest::threadCount);
        Check.sentence("(0 at the start, at most `threadCap`). It changes nothing.", SpawnTest::readerChangesNothing);
        Check.end();
    }

    private static void fullRefuses() {
        for (int cap = 2; cap <= 4; cap++) {
            Probe p = Probe.sized("threads of " + cap, cap, 8);
            for (int id = 0; id < cap; id++) {
                p.spawn(id);
            }
            for (int pc : PCS) {
                p.refusesSpawn(pc);
            }
        }
        Probe busy = Probe.busy();
        busy.spawn(0, 0).refusesSpawn(0).refusesSpawn(-1);
    }

    private static void anyPc() {
        for (int pc : PCS) {
            Probe none = new Probe("no code");
            none.spawn(pc).alive(0, pc, UNMASKED);
            Probe some = new Probe("a cell", HALT, 0);
            some.spawn(0, pc).alive(1, pc, UNMASKED);
        }
    }

    private static void newThreadIsEmpty() {
        Probe p = Probe.busy();
        p.spawn(-3, MAX).alive(2, -3, UNMASKED).empty(2).alive(3, MAX, UNMASKED).empty(3);
        Probe first = new Probe("first");
        first.spawn(9).alive(0, 9, UNMASKED).empty(0);
        Probe afterDeath = new Probe("after a death", PUSH, 5, MASK, 2, THROW, 0);
        afterDeath.spawn(0).run(0, 3).spawn(0).alive(1, 0, UNMASKED).empty(1);
        Probe afterMasked = new Probe("after a masked thread", MASK, 2);
        afterMasked.spawn(0).run(0, 1).throwTo(0, 5).spawn(0).alive(1, 0, UNMASKED).empty(1);
    }

    private static void idsInOrder() {
        AsyncMaskVm vm = new AsyncMaskVm(4, 8);
        for (int id = 0; id < 4; id++) {
            Check.due("getThreadCount()", vm.getThreadCount(), id);
            Check.due("spawn", vm.spawn(0), id);
            Check.due("getThreadCount()", vm.getThreadCount(), id + 1);
        }
    }

    private static void spawnTouchesNothingElse() {
        Probe p = Probe.busy();
        String code = Snapshot.code(p.vm);
        String zero = Snapshot.thread(p.vm, 0);
        String one = Snapshot.thread(p.vm, 1);
        String resources = Snapshot.resources(p.vm);
        p.spawn(4);
        Check.due("code after spawn", Snapshot.code(p.vm), code);
        Check.due("thread 0 after spawn", Snapshot.thread(p.vm, 0), zero);
        Check.due("thread 1 after spawn", Snapshot.thread(p.vm, 1), one);
        Check.due("resources after spawn", Snapshot.resources(p.vm), resources);
    }

    private static void slotsAreNotReused() {
        Probe p = Probe.sized("finished threads", 3, 8).code(HALT, 0);
        p.spawn(0).run(0, 1).spawn(-1).run(1, 1).spawn(0).run(2, 1);
        p.refusesSpawn(0).done(0, 1, UNMASKED).died(1, -1, UNMASKED, E_BADPC).done(2, 1, UNMASKED);
    }

    private static void threadCount() {
        for (int cap = 2; cap <= 4; cap++) {
            Probe p = Probe.sized("threads of " + cap, cap, 8);
            for (int count = 0; count < cap; count++) {
                Check.due("getThreadCount()", p.vm.getThreadCount(), count);
                p.spawn(-1).run(count, 1);
            }
            Check.due("getThreadCount()", p.vm.getThreadCount(), cap);
            p.refusesSpawn(0);
            Check.due("getThreadCount()", p.vm.getThreadCount(), cap);
        }
    }

    private static void readerChangesNothing() {
        Probe p = Probe.busy();
        p.changesNothing("getThreadCount()", p.vm::getThreadCount).isStillBusy();
    }
}
