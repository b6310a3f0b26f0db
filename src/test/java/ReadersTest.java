import java.util.function.Consumer;

// Promises 7, 8, 9 and 11; those of the other readers stand with what they read.
public final class ReadersTest extends Names {
    private static final int[] ANY = {MIN, -8, -1, 0, 1, 2, 3, 4, 7, 8, 9, MAX};
    private static final int[] NO_THREAD_OF_TWO = {MIN, -2, -1, 2, 3, 4, MAX};

    public static void main(String[] args) {
        Check.sentence("`getThread(tid, field)` answers -1 if `tid` is not in `[0,threadCount)`",
                ReadersTest::fieldsOfNoThread);
        Check.sentence("or `field` is not in 0..7", ReadersTest::wrongThreadFields);
        Check.sentence("0 state; 1 pc; 2 mask; 3 exit; 4 operand stack depth; 5 frame depth; 6 pending count",
                ReadersTest::threadFields);
        Check.sentence("7 is 1 if BLOCKED(tid) else 0", ReadersTest::blockedField);
        Check.sentence("7 is 1 if BLOCKED(tid) else 0. It changes nothing.", () -> changesNothing(ReadersTest::readThreads));
        Check.sentence("Finished threads (DONE or DIED) stay readable.", ReadersTest::finishedStayReadable);
        Check.sentence("`getStack(tid, i)` answers operand stack cell i (0 = bottom) of thread `tid`.",
                ReadersTest::stackCells);
        Check.sentence("It answers 0 if `tid` is not in `[0,threadCount)` or i is not in `[0,depth)`.",
                ReadersTest::noStackCell);
        Check.sentence("or i is not in `[0,depth)`. It changes nothing.", () -> changesNothing(ReadersTest::readStacks));
        Check.sentence("`getFrame(tid, i, field)` answers a field of frame i (0 = bottom) of thread `tid`",
                ReadersTest::frameFields);
        Check.sentence("field 1 is arg (handler for F_CATCH, clamped m for F_MASK, resource for F_BRACKET)",
                ReadersTest::frameArgs);
        Check.sentence("`saved` is the thread's mask when the frame was pushed", ReadersTest::savedMasks);
        Check.sentence("It answers 0 if `tid` is not in `[0,threadCount)`, i is not in `[0,frame depth)`",
                ReadersTest::noFrame);
        Check.sentence("i is not in `[0,frame depth)` or `field` is not in 0..2.", ReadersTest::wrongFrameFields);
        Check.sentence("i is not in `[0,frame depth)` or `field` is not in 0..2. It changes nothing.",
                () -> changesNothing(ReadersTest::readFrames));
        Check.sentence("`holder` (-1 means free, otherwise a thread id)", ReadersTest::holders);
        Check.sentence("Initially these are -1, 0, 0.", () -> new Probe("new").everyResource(-1, 0, 0));
        Check.sentence("field 0 the holder (-1 = free), field 1 acquires, field 2 releases", ReadersTest::resourceFields);
        Check.sentence("It answers -1 if r is not in 0..7 or `field` is not in 0..2.", ReadersTest::noResource);
        Check.sentence("It answers -1 if r is not in 0..7 or `field` is not in 0..2. It changes nothing.",
                () -> changesNothing(ReadersTest::readResources));
        Check.end();
    }

    private static void fieldsOfNoThread() {
        Probe none = new Probe("no thread", NOP, 0);
        for (int tid : ANY) {
            for (int field = -1; field <= 8; field++) {
                none.field(tid, field, -1);
            }
        }
        Probe two = Probe.busy();
        for (int tid : NO_THREAD_OF_TWO) {
            for (int field = -1; field <= 8; field++) {
                two.field(tid, field, -1);
            }
        }
        Probe four = new Probe("four threads").spawn(0, 0, 0, 0);
        four.field(0, 0, ALIVE).field(3, 0, ALIVE).field(-1, 0, -1).field(4, 0, -1);
    }

    private static void wrongThreadFields() {
        Probe p = Probe.busy();
        for (int field : new int[] {MIN, -8, -1, 8, 9, MAX}) {
            p.field(0, field, -1).field(1, field, -1);
        }
    }

    private static void threadFields() {
        Probe p = Probe.busy();
        p.field(0, 0, ALIVE).field(0, 1, 5).field(0, 2, MASKED).field(0, 3, 0).field(0, 4, 3).field(0, 5, 2).field(0, 6, 2);
        p.field(1, 0, ALIVE).field(1, 1, 22).field(1, 2, UNMASKED).field(1, 3, 0).field(1, 4, 8).field(1, 5, 8).field(1, 6, 4);
        Probe far = new Probe("far pcs").spawn(MIN, MAX, -1).field(0, 1, MIN).field(1, 1, MAX).field(2, 1, -1);
        far.run(2, 1).field(2, 0, DIED).field(2, 3, E_BADPC);
    }

    private static void blockedField() {
        Probe p = Probe.busy();
        p.field(0, 7, 1).field(1, 7, 0).step(0, DELIVERED).field(0, 7, 0);
    }

    private static void finishedStayReadable() {
        Probe p = new Probe("finished", PUSH, -77, THROW, 0, HALT, 0);
        p.spawn(0, 2).run(0, 2).run(1, 1).died(0, 2, UNMASKED, -77).done(1, 3, UNMASKED);
    }

    private static void stackCells() {
        Probe p = new Probe("stack", PUSH, 1, PUSH, 2, PUSH, 3, PUSH, 4, PUSH, 5, PUSH, 6, PUSH, 7, PUSH, MIN);
        p.spawn(0, 0, 0, 4).run(3, 4).run(0, 8).stack(0, 1, 2, 3, 4, 5, 6, 7, MIN).stack(1).stack(3, 5, 6, 7, MIN);
    }

    private static void noStackCell(Probe p, int tid, int... places) {
        for (int i : places) {
            Check.due("getStack(" + tid + ", " + i + ")", p.vm.getStack(tid, i), 0);
        }
    }

    // Popped cells must not show either: the stack once held eight.
    private static void noStackCell() {
        noStackCell(new Probe("no thread"), 0, ANY);
        Probe busy = Probe.busy();
        for (int tid : NO_THREAD_OF_TWO) {
            noStackCell(busy, tid, ANY);
        }
        noStackCell(busy, 0, MIN, -8, -1, 3, 7, 8, 11, MAX);
        noStackCell(busy, 1, MIN, -8, -1, 8, 9, MAX);
        Probe popped = new Probe("popped").repeat(8, PUSH, 6).repeat(8, POP, 0).spawn(0).run(0, 8);
        for (int depth = 7; depth >= 0; depth--) {
            popped.run(0, 1);
            noStackCell(popped, 0, -1, depth, 7, 8);
        }
    }

    private static void frameFields() {
        Probe p = new Probe("frames", CATCH, 9, MASK, 1, BRACKET, 3, MASK, 2, BRACKET, 4, CATCH, 7, MASK, 0, BRACKET, 5);
        p.spawn(0, 0, 0, 5).run(3, 1).run(0, 8).frames(1).frames(3, F_CATCH, 7, UNMASKED);
        p.frames(0, F_CATCH, 9, 0, F_MASK, 1, 0, F_BRACKET, 3, 1, F_MASK, 2, 1, F_BRACKET, 4, 2, F_CATCH, 7, 2,
                F_MASK, 0, 2, F_BRACKET, 5, 0);
    }

    private static void frameArgs() {
        Probe p = new Probe("args", CATCH, MIN, CATCH, MAX, MASK, MIN, MASK, MAX, MASK, 1, BRACKET, 0, BRACKET, 7);
        p.spawn(0).run(0, 7);
        p.frames(0, F_CATCH, MIN, 0, F_CATCH, MAX, 0, F_MASK, 0, 0, F_MASK, 2, 0, F_MASK, 1, 2, F_BRACKET, 0, 1, F_BRACKET, 7, 1);
    }

    private static void savedMasks() {
        for (int m = 0; m <= 2; m++) {
            Probe p = new Probe("mask " + m, MASK, m, CATCH, 9, MASK, m, BRACKET, 2, MASK, 2 - m);
            p.spawn(0).run(0, 5).frames(0, F_MASK, m, UNMASKED, F_CATCH, 9, m, F_MASK, m, m, F_BRACKET, 2, m, F_MASK, 2 - m, m);
        }
    }

    private static void noFrame(Probe p, int tid, int... places) {
        for (int i : places) {
            for (int field = -1; field <= 3; field++) {
                Check.due("getFrame(" + tid + ", " + i + ", " + field + ")", p.vm.getFrame(tid, i, field), 0);
            }
        }
    }

    // Ended frames must not show either: there once were eight.
    private static void noFrame() {
        noFrame(new Probe("no thread"), 0, ANY);
        Probe busy = Probe.busy();
        for (int tid : NO_THREAD_OF_TWO) {
            noFrame(busy, tid, ANY);
        }
        noFrame(busy, 0, MIN, -8, -1, 2, 7, 8, 10, MAX);
        noFrame(busy, 1, MIN, -8, -1, 8, 9, MAX);
        Probe ended = new Probe("ended").repeat(8, MASK, 2).repeat(8, END, 0).spawn(0).run(0, 8);
        for (int depth = 7; depth >= 0; depth--) {
            ended.run(0, 1);
            noFrame(ended, 0, -1, depth, 7, 8);
        }
    }

    private static void wrongFrameFields() {
        Probe p = Probe.busy();
        for (int field : new int[] {MIN, -3, -1, 3, 4, MAX}) {
            Check.due("getFrame(0, 1, " + field + ")", p.vm.getFrame(0, 1, field), 0);
            Check.due("getFrame(1, 7, " + field + ")", p.vm.getFrame(1, 7, field), 0);
        }
    }

    private static void holders() {
        for (int t = 0; t < 4; t++) {
            Probe p = new Probe("thread " + t, BRACKET, 0, BRACKET, 7, END, 0, END, 0);
            p.spawn(0, 0, 0, 0).run(t, 2).resource(0, t, 1, 0).resource(7, t, 1, 0).resource(1, -1, 0, 0);
            p.run(t, 1).resource(7, -1, 1, 1).resource(0, t, 1, 0).run(t, 1).resource(0, -1, 1, 1);
        }
    }

    private static void resourceFields() {
        Probe p = new Probe("resources").takeAll().repeat(8, END, 0).code(JMP, 0);
        p.spawn(0, 0).everyResource(-1, 0, 0).run(1, 8).everyResource(1, 1, 0).run(1, 8).everyResource(-1, 1, 1);
        p.run(1, 9).everyResource(1, 2, 1);
    }

    private static void noResource() {
        for (Probe p : new Probe[] {new Probe("new"), new Probe("all held").takeAll().spawn(0).run(0, 8)}) {
            for (int r : new int[] {MIN, -8, -1, 8, 9, MAX}) {
                for (int field = -1; field <= 3; field++) {
                    Check.due("getResource(" + r + ", " + field + ")", p.vm.getResource(r, field), -1);
                }
            }
            for (int field : new int[] {MIN, -1, 3, 4, MAX}) {
                Check.due("getResource(0, " + field + ")", p.vm.getResource(0, field), -1);
                Check.due("getResource(7, " + field + ")", p.vm.getResource(7, field), -1);
            }
        }
    }

    private static void changesNothing(Consumer<AsyncMaskVm> reads) {
        Probe busy = Probe.busy();
        busy.changesNothing("the reads", () -> reads.accept(busy.vm)).isStillBusy();
        Probe finished = new Probe("finished", THROW, 0, HALT, 0).spawn(0, 1).run(0, 1).run(1, 1);
        finished.changesNothing("the reads", () -> reads.accept(finished.vm));
    }

    private static void readThreads(AsyncMaskVm vm) {
        for (int tid : ANY) {
            for (int field : ANY) {
                vm.getThread(tid, field);
            }
        }
    }

    private static void readStacks(AsyncMaskVm vm) {
        for (int tid : ANY) {
            for (int i : ANY) {
                vm.getStack(tid, i);
            }
        }
    }

    private static void readFrames(AsyncMaskVm vm) {
        for (int tid : ANY) {
            for (int i : ANY) {
                for (int field : ANY) {
                    vm.getFrame(tid, i, field);
                }
            }
        }
    }

    private static void readResources(AsyncMaskVm vm) {
        for (int r : ANY) {
            for (int field : ANY) {
                vm.getResource(r, field);
            }
        }
    }
}
