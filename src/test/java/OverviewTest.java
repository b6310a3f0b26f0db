// 'What it is', the words before the promises.
public final class OverviewTest extends Names {
    public static void main(String[] args) {
        Check.sentence("Up to four threads run one shared, append-only bytecode program of sixteen opcodes.",
                OverviewTest::fourThreadsOneProgram);
        Check.sentence("The caller acts as the scheduler: every call to `step(tid)` runs one step of one chosen thread.",
                OverviewTest::callerSchedules);
        Check.sentence("Threads throw exceptions synchronously (THROW) or asynchronously to one another (THROWTO, or "
                + "`throwTo` from outside).", OverviewTest::waysToThrow);
        Check.sentence("Each thread keeps a FIFO queue of pending asynchronous exceptions", OverviewTest::ownQueues);
        Check.sentence("UNMASKED: delivery happens at its next step.", OverviewTest::unmasked);
        Check.sentence("MASKED: delivery happens only while the thread is blocked.", OverviewTest::masked);
        Check.sentence("UNINTERRUPTIBLE: delivery never happens.", OverviewTest::uninterruptible);
        Check.sentence("A thread is blocked when it is about to take a resource that is held, or about to throw to a "
                + "thread whose queue is full.", OverviewTest::waysToBeBlocked);
        Check.sentence("Catch, mask and bracket frames live on a per-thread frame stack.", OverviewTest::ownFrames);
        Check.sentence("Unwinding pops frames and restores the mask saved in each one.", OverviewTest::unwinding);
        Check.sentence("Bracket frames release their resource, and a catch frame resumes the thread at its handler with "
                + "the exception value.", OverviewTest::releaseAndResume);
        Check.end();
    }

    private static void fourThreadsOneProgram() {
        Probe p = Probe.sized("all opcodes", MAX, MAX);
        for (int op = 0; op < 16; op++) {
            p.code(op, 5);
        }
        p.refusesLoad(16, 5).refusesLoad(-1, 5);
        p.spawn(1, 1, 1, 1).refusesSpawn(1);
        for (int tid = 0; tid < 4; tid++) {
            p.run(tid, 1).alive(tid, 2, UNMASKED).stack(tid, 5);
        }
        p.code(PUSH, 6, HALT, 0);
        Check.due("the first cell stays", p.vm.getCode(0, 0), NOP);
        Check.due("the code grew", p.vm.getCodeSize(), 18);
    }

    private static void callerSchedules() {
        Probe p = new Probe("three threads", JMP, 0, NOP, 0, NOP, 0, NOP, 0, NOP, 0);
        p.spawn(1, 1, 1).run(1, 1).alive(0, 1, UNMASKED).alive(1, 2, UNMASKED).alive(2, 1, UNMASKED);
        p.run(2, 3).run(1, 1).alive(0, 1, UNMASKED).alive(1, 3, UNMASKED).alive(2, 4, UNMASKED);
        p.throwTo(0, 7).code(NOP, 0).spawn(0);
        p.alive(0, 1, UNMASKED).pending(0, 7).alive(1, 3, UNMASKED).alive(2, 4, UNMASKED);
    }

    private static void waysToThrow() {
        Probe p = new Probe("throws", PUSH, 5, THROW, 0, PUSH, 6, THROWTO, 2);
        p.spawn(0, 2, 0).run(0, 2).died(0, 2, UNMASKED, 5);
        p.run(1, 2).alive(1, 4, UNMASKED).stack(1).alive(2, 0, UNMASKED).pending(2, 6);
        p.throwTo(2, 7).alive(2, 0, UNMASKED).pending(2, 6, 7).step(2, DELIVERED).died(2, 0, UNMASKED, 6);
    }

    private static void ownQueues() {
        Probe p = new Probe("four queues", CATCH, 0, CATCH, 1, NOP, 0);
        p.spawn(0, 0, 0, 0);
        for (int tid = 0; tid < 4; tid++) {
            p.run(tid, 2).throwTo(tid, 10 + tid, 20 + tid);
        }
        for (int tid = 3; tid >= 0; tid--) {
            p.pending(tid, 10 + tid, 20 + tid).step(tid, DELIVERED).stack(tid, 10 + tid).pending(tid, 20 + tid);
            p.step(tid, DELIVERED).stack(tid, 20 + tid).pending(tid);
        }
    }

    private static void unmasked() {
        Probe free = new Probe("not blocked", CATCH, 5, NOP, 0).spawn(0).run(0, 1).throwTo(0, 7).blocked(0, false);
        free.step(0, DELIVERED).alive(0, 5, UNMASKED).stack(0, 7);
        Probe held = new Probe("blocked", CATCH, 5, BRACKET, 0, BRACKET, 0).spawn(0).run(0, 2).throwTo(0, 7);
        held.blocked(0, true).step(0, DELIVERED).alive(0, 5, UNMASKED).stack(0, 7);
    }

    private static void masked() {
        Probe p = new Probe("masked", CATCH, 9, MASK, MASKED, NOP, 0, BRACKET, 0, NOP, 0, BRACKET, 0);
        p.spawn(0).run(0, 2).throwTo(0, 7).run(0, 3).alive(0, 5, MASKED).pending(0, 7).blocked(0, true);
        p.step(0, DELIVERED).alive(0, 9, UNMASKED).stack(0, 7).pending(0).resource(0, -1, 1, 1);
    }

    private static void uninterruptible() {
        Probe p = new Probe("uninterruptible", CATCH, 9, MASK, UNINTERRUPTIBLE, NOP, 0, BRACKET, 0, BRACKET, 0);
        p.spawn(0).run(0, 2).throwTo(0, 7).run(0, 2).blocked(0, true);
        for (int i = 0; i < 5; i++) {
            p.stepChangesNothing(0, BLOCKED);
        }
        p.alive(0, 4, UNINTERRUPTIBLE).pending(0, 7);
    }

    private static void waysToBeBlocked() {
        Probe resource = new Probe("at a resource", BRACKET, 0, END, 0).spawn(0, 0).blocked(0, false).blocked(1, false);
        resource.run(0, 1).blocked(1, true).stepChangesNothing(1, BLOCKED).run(0, 1).blocked(1, false).run(1, 1);
        Probe queue = new Probe("at a queue", PUSH, 5, THROWTO, 1, CATCH, 0).spawn(0, 2).run(0, 1).run(1, 1);
        queue.throwTo(1, 1, 2, 3).blocked(0, false).throwTo(1, 4).blocked(0, true).stepChangesNothing(0, BLOCKED);
        queue.step(1, DELIVERED).blocked(0, false).run(0, 1).pending(1, 2, 3, 4, 5);
    }

    private static void ownFrames() {
        Probe p = new Probe("two frame stacks", CATCH, 9, MASK, 1, BRACKET, 3, BRACKET, 4, MASK, 2, CATCH, 8);
        p.spawn(0, 3).run(0, 1).run(1, 1).run(0, 1).run(1, 2).run(0, 1);
        p.frames(0, F_CATCH, 9, 0, F_MASK, 1, 0, F_BRACKET, 3, 1);
        p.frames(1, F_BRACKET, 4, 0, F_MASK, 2, 0, F_CATCH, 8, 2);
    }

    private static void unwinding() {
        Probe p = new Probe("masks", CATCH, 6, MASK, 1, CATCH, 5, MASK, 2, THROW, 0, POP, 0, POP, 0).spawn(0).run(0, 4);
        p.alive(0, 4, UNINTERRUPTIBLE).run(0, 1).alive(0, 5, MASKED).stack(0, E_UNDERFLOW).frames(0, 1, 6, 0, 2, 1, 0);
        p.run(0, 2).alive(0, 6, UNMASKED).stack(0, E_UNDERFLOW).frames(0);
    }

    private static void releaseAndResume() {
        Probe p = new Probe("brackets", CATCH, 5, BRACKET, 1, BRACKET, 6, PUSH, 77, THROW, 0, PUSH, 3);
        p.spawn(0).run(0, 4).resource(1, 0, 1, 0).resource(6, 0, 1, 0);
        p.run(0, 1).alive(0, 5, UNMASKED).stack(0, 77).frames(0).resource(1, -1, 1, 1).resource(6, -1, 1, 1);
        p.run(0, 1).stack(0, 77, 3);
    }
}
