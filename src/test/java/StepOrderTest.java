// Promise 4: what a step decides, and in which order; BLOCKED(t).
public final class StepOrderTest {
    private static final int NOSTEP = AsyncMaskVm.NOSTEP;
    private static final int BLOCKED = AsyncMaskVm.BLOCKED;
    private static final int DELIVERED = AsyncMaskVm.DELIVERED;
    private static final int NOP = AsyncMaskVm.NOP;
    private static final int PUSH = AsyncMaskVm.PUSH;
    private static final int JMP = AsyncMaskVm.JMP;
    private static final int THROWTO = AsyncMaskVm.THROWTO;
    private static final int CATCH = AsyncMaskVm.CATCH;
    private static final int MASK = AsyncMaskVm.MASK;
    private static final int BRACKET = AsyncMaskVm.BRACKET;
    private static final int HALT = AsyncMaskVm.HALT;

    public static void main(String[] args) {
        noSuchThread();
        finishedThreadsStand();
        unmaskedDelivers();
        maskedDeliversOnlyBlocked();
        uninterruptibleNeverDelivers();
        deliveryGoesBeforeBlockedAndBadPc();
        oldestIsDeliveredFirst();
        queuesAreApart();
        badPc();
        badPcIsCaught();
        blockedByOwnBracket();
        blockedBracketGoesBeforeFullFrames();
        wrongResourceIsNotBlocked();
        blockedByFullQueue();
        whenThrowToIsNotBlocked();
        maskedThrowToBlockedDelivers();
        Check.end();
    }

    private static void noSuchThread() {
        Probe p = new Probe("no such thread", NOP, 0);
        int[] wrongIds = {-1, 0, 1, 4, Integer.MIN_VALUE, Integer.MAX_VALUE};
        for (int tid : wrongIds) {
            p.stepChangesNothing(tid, NOSTEP);
        }
        p.spawn(0);
        p.stepChangesNothing(1, NOSTEP).stepChangesNothing(-1, NOSTEP);
    }

    private static void finishedThreadsStand() {
        Probe p = new Probe("finished threads", HALT, 0, BRACKET, 9);
        p.spawn(0, 1).run(0, 1).run(1, 1);
        p.done(0, 1, 0).died(1, 2, 0, AsyncMaskVm.E_BADRES);
        p.stepChangesNothing(0, NOSTEP).stepChangesNothing(1, NOSTEP);
    }

    private static void unmaskedDelivers() {
        Probe p = new Probe("unmasked", CATCH, 3, PUSH, 1, PUSH, 2, NOP, 0);
        p.spawn(0).run(0, 2).throwTo(0, 55).step(0, DELIVERED);
        p.alive(0, 3, 0).stack(0, 55).frames(0).pending(0);
        p.throwTo(0, 56).step(0, DELIVERED).died(0, 3, 0, 56);
    }

    private static void maskedDeliversOnlyBlocked() {
        Probe p = new Probe("masked", BRACKET, 0, NOP, 0, MASK, 1, NOP, 0, BRACKET, 0);
        p.spawn(0, 2).run(0, 1).run(1, 1).throwTo(1, 7);
        p.run(1, 1).alive(1, 4, 1).pending(1, 7).blocked(1, true);
        p.step(1, DELIVERED).died(1, 4, 0, 7).resource(0, 0, 1, 0);
    }

    private static void uninterruptibleNeverDelivers() {
        Probe p = new Probe("uninterruptible", BRACKET, 0, AsyncMaskVm.END, 0, MASK, 2, BRACKET, 0);
        p.spawn(0, 2).run(0, 1).run(1, 1).throwTo(1, 7);
        p.stepChangesNothing(1, BLOCKED).stepChangesNothing(1, BLOCKED);
        p.run(0, 1).run(1, 1).resource(0, 1, 2, 1).pending(1, 7).alive(1, 4, 2);
    }

    private static void deliveryGoesBeforeBlockedAndBadPc() {
        Probe p = new Probe("delivery first", BRACKET, 0, NOP, 0);
        p.spawn(0, 0, 99).run(0, 1).throwTo(1, 7).blocked(1, true);
        p.step(1, DELIVERED).died(1, 0, 0, 7);
        p.throwTo(2, 8).step(2, DELIVERED).died(2, 99, 0, 8);
    }

    private static void oldestIsDeliveredFirst() {
        Probe p = new Probe("oldest first", CATCH, 0, CATCH, 1, CATCH, 2, CATCH, 3, NOP, 0);
        p.spawn(0).run(0, 4).throwTo(0, 11, 12, 13, 14);
        p.step(0, DELIVERED).stack(0, 11).pending(0, 12, 13, 14).alive(0, 3, 0);
        p.throwTo(0, 15).step(0, DELIVERED).stack(0, 12).pending(0, 13, 14, 15).alive(0, 2, 0);
        p.step(0, DELIVERED).stack(0, 13).pending(0, 14, 15).alive(0, 1, 0);
        p.step(0, DELIVERED).stack(0, 14).pending(0, 15).alive(0, 0, 0);
        p.step(0, DELIVERED).died(0, 0, 0, 15);
    }

    private static void queuesAreApart() {
        Probe p = new Probe("four full queues", CATCH, 0);
        p.spawn(0, 0, 0, 0);
        for (int t = 0; t < 4; t++) {
            p.run(t, 1).throwTo(t, 10 * t + 1, 10 * t + 2, 10 * t + 3, 10 * t + 4);
        }
        for (int t = 0; t < 4; t++) {
            p.step(t, DELIVERED).stack(t, 10 * t + 1);
        }
        for (int t = 0; t < 4; t++) {
            p.pending(t, 10 * t + 2, 10 * t + 3, 10 * t + 4);
        }
    }

    private static void badPc() {
        int[] wrongPcs = {-1, 1, Integer.MIN_VALUE, Integer.MAX_VALUE};
        for (int pc : wrongPcs) {
            Probe p = new Probe("bad pc " + pc, NOP, 0);
            p.spawn(pc).blocked(0, false).run(0, 1).died(0, pc, 0, AsyncMaskVm.E_BADPC);
            Probe jump = new Probe("jump to " + pc, JMP, pc);
            jump.spawn(0).run(0, 1).alive(0, pc, 0).run(0, 1).died(0, pc, 0, AsyncMaskVm.E_BADPC);
        }
        Probe none = new Probe("no code");
        none.spawn(0).run(0, 1).died(0, 0, 0, AsyncMaskVm.E_BADPC);
    }

    // E_BADPC is no asynchronous exception: no mask holds it up.
    private static void badPcIsCaught() {
        Probe p = new Probe("bad pc caught", CATCH, 1, MASK, 2, JMP, -9);
        p.spawn(0).run(0, 3).alive(0, -9, 2);
        p.run(0, 1).alive(0, 1, 0).stack(0, AsyncMaskVm.E_BADPC).frames(0);
    }

    private static void blockedByOwnBracket() {
        Probe p = new Probe("own bracket", BRACKET, 7, BRACKET, 7);
        p.spawn(0).run(0, 1).blocked(0, true).stepChangesNothing(0, BLOCKED);
        p.resource(7, 0, 1, 0).frames(0, 3, 7, 0);
    }

    private static void blockedBracketGoesBeforeFullFrames() {
        Probe p = new Probe("full frames at a held bracket", BRACKET, 0, CATCH, 9, CATCH, 9, CATCH, 9, CATCH, 9,
                CATCH, 9, CATCH, 9, CATCH, 9, BRACKET, 0);
        p.spawn(0).run(0, 8).field(0, 5, 8).blocked(0, true).stepChangesNothing(0, BLOCKED);
    }

    private static void wrongResourceIsNotBlocked() {
        int[] wrongResources = {-1, 8, Integer.MIN_VALUE, Integer.MAX_VALUE};
        for (int r : wrongResources) {
            Probe p = new Probe("wrong resource " + r, BRACKET, r);
            p.spawn(0).blocked(0, false).run(0, 1).died(0, 1, 0, AsyncMaskVm.E_BADRES);
        }
    }

    private static void blockedByFullQueue() {
        Probe p = new Probe("full queue", PUSH, 9, THROWTO, 1, MASK, 2, NOP, 0, CATCH, 0);
        p.spawn(0, 2).run(0, 1).throwTo(1, 1, 2, 3).blocked(0, false).throwTo(1, 4).blocked(0, true);
        p.stepChangesNothing(0, BLOCKED).field(0, 4, 1);
        p.step(1, DELIVERED).died(1, 2, 0, 1).blocked(0, false);
        p.run(0, 1).alive(0, 2, 0).stack(0).pending(1);
    }

    private static void whenThrowToIsNotBlocked() {
        Probe empty = new Probe("full queue, empty stack", THROWTO, 1);
        empty.spawn(0, 0).throwTo(1, 1, 2, 3, 4).blocked(0, false);
        empty.run(0, 1).died(0, 1, 0, AsyncMaskVm.E_UNDERFLOW).pending(1, 1, 2, 3, 4);

        Probe self = new Probe("full queue, but own", MASK, 2, PUSH, 9, THROWTO, 0);
        self.spawn(0).run(0, 2).throwTo(0, 1, 2, 3, 4).blocked(0, false);
        self.run(0, 1).died(0, 3, 0, 9);

        int[] strangers = {-1, 1, 4, Integer.MIN_VALUE, Integer.MAX_VALUE};
        for (int u : strangers) {
            Probe p = new Probe("throw to stranger " + u, PUSH, 9, THROWTO, u);
            p.spawn(0).run(0, 1).blocked(0, false).run(0, 1).alive(0, 2, 0).empty(0);
        }
    }

    private static void maskedThrowToBlockedDelivers() {
        Probe p = new Probe("masked at a full queue", MASK, 1, PUSH, 9, THROWTO, 1);
        p.spawn(0, 0).run(0, 2).throwTo(0, 50).throwTo(1, 1, 2, 3, 4).blocked(0, true);
        p.step(0, DELIVERED).died(0, 2, 0, 50).pending(1, 1, 2, 3, 4);
    }
}
