// Promises 5 and 10.
public final class ThrowToTest extends Names {
    private static final int[] VALUES = {MIN, -5, -1, 0, 1, MAX};

    public static void main(String[] args) {
        Check.sentence("`tid` not in `[0,threadCount)`: false.", ThrowToTest::wrongThreads);
        Check.sentence("The thread is not ALIVE: false.", ThrowToTest::finishedThreads);
        Check.sentence("Its pending queue is full (QUEUE_CAP values): false.", ThrowToTest::fullQueueRefuses);
        Check.sentence("A refused call changes nothing.", ThrowToTest::refusedChangesNothing);
        Check.sentence("Otherwise e (any int) is appended to the end of tid's pending queue and the answer is true.",
                ThrowToTest::appendsAtTheEnd);
        Check.sentence("Nothing else changes; delivery happens only inside `step`.", ThrowToTest::nothingElseChanges);
        Check.sentence("`getPending(tid, i)` answers pending value i (0 = oldest) of thread `tid`.", ThrowToTest::readsOfPending);
        Check.sentence("It answers 0 if `tid` is not in `[0,threadCount)`", ThrowToTest::readsOfNoThread);
        Check.sentence("or i is not in `[0,pending count)`", ThrowToTest::readsOutsideOfTheQueue);
        Check.sentence("or i is not in `[0,pending count)`. It changes nothing.", ThrowToTest::readerChangesNothing);
        Check.end();
    }

    private static void wrongThreads() {
        Probe none = new Probe("no thread");
        for (int tid : new int[] {MIN, -1, 0, 1, 3, 4, MAX}) {
            none.refusesThrowTo(tid, 5);
        }
        Probe two = new Probe("two threads").spawn(0, 0);
        for (int tid : new int[] {MIN, -2, -1, 2, 3, 4, MAX}) {
            two.refusesThrowTo(tid, 5);
        }
        two.throwTo(0, 5).throwTo(1, 6);
        Probe four = new Probe("four threads").spawn(0, 0, 0, 0);
        four.refusesThrowTo(-1, 5).refusesThrowTo(4, 5).throwTo(0, 5).throwTo(3, 6);
    }

    private static void finishedThreads() {
        Probe p = new Probe("finished", HALT, 0, POP, 0, NOP, 0);
        p.spawn(0, 1, 2, 2).run(0, 1).run(1, 1).throwTo(2, 7, 8, 9, 10).step(2, DELIVERED);
        p.refusesThrowTo(0, 5).refusesThrowTo(1, 5).refusesThrowTo(2, 5).throwTo(3, 5);
    }

    private static void fullQueueRefuses() {
        for (int m = 0; m <= 2; m++) {
            Probe p = new Probe("mask " + m, MASK, m).spawn(0).run(0, 1);
            p.throwTo(0, 1, 2, 3).pending(0, 1, 2, 3).throwTo(0, 4).refusesThrowTo(0, 5).pending(0, 1, 2, 3, 4);
        }
        Probe again = new Probe("full once more", CATCH, 0).spawn(0).run(0, 1).throwTo(0, 1, 2, 3, 4);
        again.step(0, DELIVERED).throwTo(0, 9).refusesThrowTo(0, 5).pending(0, 2, 3, 4, 9);
        Probe filled = new Probe("filled by a thread", PUSH, 9, THROWTO, 1).spawn(0, 0).throwTo(1, 1, 2, 3);
        filled.run(0, 2).refusesThrowTo(1, 5).pending(1, 1, 2, 3, 9);
    }

    private static void refusedChangesNothing() {
        Probe p = Probe.busy();
        for (int e : VALUES) {
            p.refusesThrowTo(1, e).refusesThrowTo(2, e).refusesThrowTo(-1, e).refusesThrowTo(4, e);
        }
    }

    private static void appendsAtTheEnd() {
        for (int e : VALUES) {
            Probe p = new Probe("value " + e).spawn(0, 0);
            p.throwTo(1, e).pending(1, e).throwTo(1, 7).pending(1, e, 7).throwTo(1, e).pending(1, e, 7, e);
            p.throwTo(1, 8).pending(1, e, 7, e, 8).pending(0);
        }
    }

    private static void nothingElseChanges() {
        Probe p = Probe.busy();
        String one = Snapshot.thread(p.vm, 1);
        String code = Snapshot.code(p.vm);
        String resources = Snapshot.resources(p.vm);
        p.throwTo(0, 43).alive(0, 5, MASKED).stack(0, 21, 22, 23).pending(0, 41, 42, 43).blocked(0, true);
        p.frames(0, F_MASK, 1, UNMASKED, F_BRACKET, 5, MASKED);
        Check.due("the other thread", Snapshot.thread(p.vm, 1), one);
        Check.due("code", Snapshot.code(p.vm), code);
        Check.due("resources", Snapshot.resources(p.vm), resources);
        for (int m = 0; m <= 2; m++) {
            Probe masked = new Probe("mask " + m, MASK, m).spawn(0).run(0, 1);
            masked.throwTo(0, 1, 2, 3, 4).alive(0, 1, m).pending(0, 1, 2, 3, 4).depths(0, 0, 1, 4);
        }
    }

    private static void readsOfPending() {
        Probe p = new Probe("four queues").spawn(0, 0, 0, 0);
        for (int t = 0; t < 4; t++) {
            p.throwTo(t, 10 * t, 10 * t + 1, 10 * t + 2, 10 * t + 3);
        }
        for (int t = 0; t < 4; t++) {
            p.pending(t, 10 * t, 10 * t + 1, 10 * t + 2, 10 * t + 3);
        }
    }

    private static void reads(Probe p, int tid, int... places) {
        for (int i : places) {
            Check.due("getPending(" + tid + ", " + i + ")", p.vm.getPending(tid, i), 0);
        }
    }

    private static void readsOfNoThread() {
        reads(new Probe("no thread"), 0, MIN, -1, 0, 1, 4, MAX);
        Probe p = new Probe("two threads").spawn(0, 0).throwTo(0, 6, 7, 8, 9).throwTo(1, 6, 7, 8, 9);
        for (int tid : new int[] {MIN, -1, 2, 3, 4, MAX}) {
            reads(p, tid, MIN, -1, 0, 1, 3, 4, MAX);
        }
        Probe four = new Probe("four threads").spawn(0, 0, 0, 0).throwTo(0, 6, 7, 8, 9).throwTo(3, 6, 7, 8, 9);
        reads(four, -1, 0, 3, 4);
        reads(four, 4, -1, 0, 3);
    }

    // Removed values must not show either: the queue once held four.
    private static void readsOutsideOfTheQueue() {
        Probe p = new Probe("shrinking queue", CATCH, 0, CATCH, 0, CATCH, 0, CATCH, 0).spawn(0, 0).run(0, 4);
        p.throwTo(0, 6, 7, 8, 9).throwTo(1, 6, 7, 8, 9);
        for (int count = 4; count > 0; count--) {
            reads(p, 0, MIN, -4, -1, count, 4, 5, 8, MAX);
            Check.due("the newest", p.vm.getPending(0, count - 1), 9);
            p.step(0, DELIVERED);
        }
        reads(p, 0, MIN, -1, 0, 1, 2, 3, 4, MAX);
        reads(p, 1, MIN, -4, -1, 4, 5, MAX);
    }

    private static void readerChangesNothing() {
        Probe p = Probe.busy();
        p.changesNothing("reads of pending", () -> {
            for (int tid : new int[] {MIN, -1, 0, 1, 2, 4, MAX}) {
                for (int i : new int[] {MIN, -1, 0, 1, 2, 3, 4, MAX}) {
                    p.vm.getPending(tid, i);
                }
            }
        }).isStillBusy();
    }
}
