// Promise 4: the effect of each of the sixteen cells, its errors and its edges.
public final class OpcodeTest {
    private static final int NOP = AsyncMaskVm.NOP;
    private static final int PUSH = AsyncMaskVm.PUSH;
    private static final int POP = AsyncMaskVm.POP;
    private static final int DUP = AsyncMaskVm.DUP;
    private static final int ADD = AsyncMaskVm.ADD;
    private static final int SUB = AsyncMaskVm.SUB;
    private static final int JMP = AsyncMaskVm.JMP;
    private static final int JZ = AsyncMaskVm.JZ;
    private static final int MYID = AsyncMaskVm.MYID;
    private static final int THROW = AsyncMaskVm.THROW;
    private static final int THROWTO = AsyncMaskVm.THROWTO;
    private static final int CATCH = AsyncMaskVm.CATCH;
    private static final int MASK = AsyncMaskVm.MASK;
    private static final int END = AsyncMaskVm.END;
    private static final int BRACKET = AsyncMaskVm.BRACKET;
    private static final int HALT = AsyncMaskVm.HALT;
    private static final int MIN = Integer.MIN_VALUE;
    private static final int MAX = Integer.MAX_VALUE;

    public static void main(String[] args) {
        stackCells();
        oneOperandSuffices();
        arithmetic(ADD, 5, 3, 8);
        arithmetic(ADD, MAX, 1, MIN);
        arithmetic(ADD, MIN, -1, MAX);
        arithmetic(SUB, 5, 3, 2);
        arithmetic(SUB, 3, 5, -2);
        arithmetic(SUB, MIN, 1, MAX);
        arithmetic(SUB, 0, MIN, MIN);
        underflow(POP, 0);
        underflow(DUP, 0);
        underflow(ADD, 0);
        underflow(ADD, 1);
        underflow(SUB, 0);
        underflow(SUB, 1);
        underflow(JZ, 0);
        underflow(THROW, 0);
        underflow(THROWTO, 0);
        overflow(PUSH);
        overflow(DUP);
        overflow(MYID);
        fullStackStillAdds();
        jumps();
        throwTop();
        throwToOther();
        throwToSelf();
        throwToFinished();
        catchFrames();
        maskClamps();
        masksNest();
        brackets();
        fullFrames(CATCH);
        fullFrames(MASK);
        fullFrames(BRACKET);
        badResourceGoesBeforeFullFrames();
        endOfNothing();
        halts();
        Check.end();
    }

    private static void stackCells() {
        Probe p = new Probe("stack", NOP, 5, PUSH, MIN, MYID, 9, DUP, 9, POP, 9, POP, 9, PUSH, 6, DUP, 0);
        p.spawn(0, 0).run(1, 1).alive(1, 1, 0).empty(1);
        p.run(1, 1).alive(1, 2, 0).stack(1, MIN);
        p.run(1, 1).alive(1, 3, 0).stack(1, MIN, 1);
        p.run(1, 1).alive(1, 4, 0).stack(1, MIN, 1, 1);
        p.run(1, 1).alive(1, 5, 0).stack(1, MIN, 1);
        p.run(1, 1).stack(1, MIN);
        p.run(1, 2).stack(1, MIN, 6, 6).alive(1, 8, 0);
        p.alive(0, 0, 0).empty(0);
    }

    private static void oneOperandSuffices() {
        Probe p = new Probe("one operand", PUSH, 6, DUP, 0, POP, 0, POP, 0);
        p.spawn(0).run(0, 2).stack(0, 6, 6).run(0, 1).stack(0, 6).run(0, 1).stack(0).alive(0, 4, 0);
    }

    private static void arithmetic(int op, int a, int b, int want) {
        Probe p = new Probe("arithmetic " + op, PUSH, 44, PUSH, a, PUSH, b, op, 0);
        p.spawn(0).run(0, 4).stack(0, 44, want).alive(0, 4, 0);
    }

    private static void underflow(int op, int depth) {
        Probe p = new Probe("underflow of " + op + " at depth " + depth, PUSH, 3, op, 1);
        p.spawn(1 - depth).run(0, depth + 1).died(0, 2, 0, AsyncMaskVm.E_UNDERFLOW);
        Probe caught = new Probe("caught underflow of " + op + " at " + depth, CATCH, 4, depth == 0 ? NOP : PUSH, 3, op, 0);
        caught.spawn(0).run(0, 3).alive(0, 4, 0).stack(0, AsyncMaskVm.E_UNDERFLOW).frames(0);
    }

    private static void overflow(int op) {
        Probe p = new Probe("overflow of " + op, PUSH, 6, PUSH, 6, PUSH, 6, PUSH, 6, PUSH, 6, PUSH, 6, PUSH, 6, op, 6, op, 1);
        p.spawn(0).run(0, 8).field(0, 4, 8).run(0, 1).died(0, 9, 0, AsyncMaskVm.E_OVERFLOW);
        Probe caught = new Probe("caught overflow of " + op, CATCH, 30, PUSH, 6, PUSH, 6, PUSH, 6, PUSH, 6, PUSH, 6,
                PUSH, 6, PUSH, 6, PUSH, 6, op, 1);
        caught.spawn(0).run(0, 10).alive(0, 30, 0).stack(0, AsyncMaskVm.E_OVERFLOW).frames(0);
    }

    private static void fullStackStillAdds() {
        Probe p = new Probe("full stack", PUSH, 1, PUSH, 2, PUSH, 3, PUSH, 4, PUSH, 5, PUSH, 6, PUSH, 7, PUSH, 8, ADD, 0, SUB, 0);
        p.spawn(0).run(0, 8).stack(0, 1, 2, 3, 4, 5, 6, 7, 8);
        p.run(0, 1).stack(0, 1, 2, 3, 4, 5, 6, 15).run(0, 1).stack(0, 1, 2, 3, 4, 5, -9);
    }

    private static void jumps() {
        Probe p = new Probe("jumps", PUSH, 0, JZ, 4, NOP, 0, NOP, 0, PUSH, 1, JZ, 0, JMP, 2);
        p.spawn(0).run(0, 2).alive(0, 4, 0).stack(0);
        p.run(0, 2).alive(0, 6, 0).stack(0).run(0, 1).alive(0, 2, 0);
        Probe wide = new Probe("wide jumps", JMP, MIN, PUSH, 0, JZ, MAX, PUSH, MIN, JZ, 0);
        wide.spawn(0, 1, 3).run(0, 1).alive(0, MIN, 0).run(1, 2).alive(1, MAX, 0).run(2, 2).alive(2, 5, 0);
    }

    private static void throwTop() {
        Probe p = new Probe("throw", PUSH, 5, PUSH, MIN, THROW, 3);
        p.spawn(0).run(0, 3).died(0, 3, 0, MIN);
        Probe zero = new Probe("throw zero", CATCH, 9, MASK, 2, PUSH, 5, PUSH, 0, THROW, 3);
        zero.spawn(0).run(0, 5).alive(0, 9, 0).stack(0, 0).frames(0);
    }

    private static void throwToOther() {
        Probe p = new Probe("throw to another", PUSH, 5, PUSH, 6, THROWTO, 2, THROWTO, 2, NOP, 0);
        p.spawn(0, 4, 4).run(0, 2);
        String bystander = Snapshot.thread(p.vm, 1);
        p.run(0, 1).alive(0, 3, 0).stack(0, 5).pending(2, 6).alive(2, 4, 0);
        p.run(0, 1).alive(0, 4, 0).stack(0).pending(2, 6, 5).alive(2, 4, 0).pending(0);
        Check.due("a bystander", Snapshot.thread(p.vm, 1), bystander);
    }

    // A throw to oneself is raised at once, whatever the mask, and does not pass through the queue.
    private static void throwToSelf() {
        for (int m = 0; m <= 2; m++) {
            Probe p = new Probe("throw to self under mask " + m, CATCH, 20, MASK, m, PUSH, 1, PUSH, 8, THROWTO, 1);
            p.spawn(0, 0).run(1, 5).alive(1, 20, 0).stack(1, 8).frames(1).pending(1);
        }
    }

    private static void throwToFinished() {
        Probe p = new Probe("throw to the finished", PUSH, 5, THROWTO, 1, PUSH, 6, THROWTO, 2, HALT, 0, POP, 0);
        p.spawn(0, 4, 5).run(1, 1).run(2, 1);
        p.run(0, 4).alive(0, 4, 0).empty(0).done(1, 5, 0).died(2, 6, 0, AsyncMaskVm.E_UNDERFLOW);
    }

    private static void catchFrames() {
        Probe p = new Probe("catch", PUSH, 4, CATCH, MIN, MASK, 1, CATCH, MAX);
        p.spawn(0).run(0, 4).alive(0, 4, 1).stack(0, 4).frames(0, 1, MIN, 0, 2, 1, 0, 1, MAX, 1);
    }

    private static void maskClamps() {
        int[][] masks = {{MIN, 0}, {-1, 0}, {0, 0}, {1, 1}, {2, 2}, {3, 2}, {MAX, 2}};
        for (int[] mask : masks) {
            Probe p = new Probe("mask " + mask[0], MASK, mask[0], END, 0);
            p.spawn(0).run(0, 1).alive(0, 1, mask[1]).frames(0, 2, mask[1], 0);
            p.run(0, 1).alive(0, 2, 0).frames(0);
        }
    }

    private static void masksNest() {
        Probe p = new Probe("masks nest", MASK, 2, MASK, 1, CATCH, 9, MASK, 0, END, 5, END, 5, END, 5, END, 5);
        p.spawn(0).run(0, 4).alive(0, 4, 0).frames(0, 2, 2, 0, 2, 1, 2, 1, 9, 1, 2, 0, 1);
        p.run(0, 1).alive(0, 5, 1).frames(0, 2, 2, 0, 2, 1, 2, 1, 9, 1);
        p.run(0, 1).alive(0, 6, 1).run(0, 1).alive(0, 7, 2).run(0, 1).alive(0, 8, 0).frames(0);
    }

    private static void brackets() {
        Probe p = new Probe("brackets", MASK, 1, BRACKET, 7, BRACKET, 0, END, 0, END, 0, BRACKET, 7);
        p.spawn(0, 0).run(1, 3).alive(1, 3, 1).frames(1, 2, 1, 0, 3, 7, 1, 3, 0, 1);
        p.resource(7, 1, 1, 0).resource(0, 1, 1, 0).resource(1, -1, 0, 0);
        p.run(1, 1).resource(7, 1, 1, 0).resource(0, -1, 1, 1).alive(1, 4, 1);
        p.run(1, 1).resource(7, -1, 1, 1).resource(0, -1, 1, 1).frames(1, 2, 1, 0);
        p.run(1, 1).resource(7, 1, 2, 1);
    }

    private static void fullFrames(int op) {
        Probe p = new Probe("full frames at " + op, CATCH, 20, MASK, 2, CATCH, 30, MASK, 1, MASK, 1, MASK, 1, MASK, 1, MASK, 1, op, 2);
        p.spawn(0).run(0, 8).field(0, 5, 8).run(0, 1);
        p.alive(0, 30, 2).stack(0, AsyncMaskVm.E_FRAMES).frames(0, 1, 20, 0, 2, 2, 0);
        p.resource(2, -1, 0, 0);
    }

    private static void badResourceGoesBeforeFullFrames() {
        Probe p = new Probe("bad resource, full frames", MASK, 0, MASK, 0, MASK, 0, MASK, 0, MASK, 0, MASK, 0, MASK, 0,
                MASK, 0, BRACKET, 8);
        p.spawn(0).run(0, 9).died(0, 9, 0, AsyncMaskVm.E_BADRES);
    }

    private static void endOfNothing() {
        Probe p = new Probe("end of nothing", END, 0);
        p.spawn(0).run(0, 1).died(0, 1, 0, AsyncMaskVm.E_FRAMES);
    }

    private static void halts() {
        Probe plain = new Probe("halt", HALT, 9);
        plain.spawn(0).run(0, 1).done(0, 1, 0);

        Probe p = new Probe("halt in frames", MASK, 1, BRACKET, 3, CATCH, 0, MASK, 2, BRACKET, 4, PUSH, 7, HALT, 0, BRACKET, 5);
        p.spawn(7, 0).run(0, 1).run(1, 6).throwTo(1, 60, 61).alive(1, 6, 2).resource(3, 1, 1, 0).resource(4, 1, 1, 0);
        p.run(1, 1).done(1, 7, 0).resource(3, -1, 1, 1).resource(4, -1, 1, 1).resource(5, 0, 1, 0);
    }
}
