// Promises 7, 8, 9 and 11; those of the other readers stand with what they read.
public final class ReadersTest {
    private static final int[] WRONG_IDS = {-1, 2, 3, 4, Integer.MIN_VALUE, Integer.MAX_VALUE};

    public static void main(String[] args) {
        readsOfNothing();
        threadFields();
        finishedThreadsStayReadable();
        wrongReads();
        wrongReadsOfResources();
        Check.end();
    }

    // Two threads; thread 0 has depth 3, two frames and two pending values, and thread 1 all it can hold.
    private static Probe busy() {
        Probe p = new Probe("busy", AsyncMaskVm.PUSH, 21, AsyncMaskVm.PUSH, 22, AsyncMaskVm.PUSH, 23,
                AsyncMaskVm.MASK, 1, AsyncMaskVm.BRACKET, 5, AsyncMaskVm.BRACKET, 5, AsyncMaskVm.PUSH, 31,
                AsyncMaskVm.CATCH, 32, AsyncMaskVm.JMP, 6);
        p.spawn(0, 6).run(0, 5);
        for (int i = 0; i < 8; i++) {
            p.run(1, 3);
        }
        return p.throwTo(0, 41, 42).throwTo(1, 43, 44, 45, 46);
    }

    private static void readsOfNothing() {
        AsyncMaskVm vm = new AsyncMaskVm(4, 8);
        for (int field = 0; field <= 7; field++) {
            Check.due("getThread(0, " + field + ")", vm.getThread(0, field), -1);
        }
        Check.due("getStack(0, 0)", vm.getStack(0, 0), 0);
        Check.due("getFrame(0, 0, 0)", vm.getFrame(0, 0, 0), 0);
        Check.due("getPending(0, 0)", vm.getPending(0, 0), 0);
    }

    private static void threadFields() {
        Probe p = busy();
        p.field(0, 0, AsyncMaskVm.ALIVE).field(0, 1, 5).field(0, 2, AsyncMaskVm.MASKED).field(0, 3, 0);
        p.field(0, 4, 3).field(0, 5, 2).field(0, 6, 2).field(0, 7, 1);
        p.field(1, 4, 8).field(1, 5, 8).field(1, 6, 4).field(1, 7, 0);
        p.stack(0, 21, 22, 23).frames(0, 2, 1, 0, 3, 5, 1).pending(0, 41, 42).resource(5, 0, 1, 0);
    }

    private static void finishedThreadsStayReadable() {
        Probe p = new Probe("finished", AsyncMaskVm.PUSH, -77, AsyncMaskVm.THROW, 0, AsyncMaskVm.HALT, 0);
        p.spawn(0, 2).run(0, 2).run(1, 1).died(0, 2, 0, -77).done(1, 3, 0);
    }

    private static void wrongReads() {
        Probe p = busy();
        AsyncMaskVm vm = p.vm;
        String before = Snapshot.of(vm);
        for (int tid : WRONG_IDS) {
            Check.due("getThread(" + tid + ", 1)", vm.getThread(tid, 1), -1);
            Check.due("getThread(" + tid + ", 7)", vm.getThread(tid, 7), -1);
            Check.due("getThread(" + tid + ", 8)", vm.getThread(tid, 8), -1);
            Check.due("getStack(" + tid + ", 0)", vm.getStack(tid, 0), 0);
            Check.due("getFrame(" + tid + ", 0, 0)", vm.getFrame(tid, 0, 0), 0);
        }
        int[] wrongPlaces = {-1, -8, 3, 8, 9, Integer.MIN_VALUE, Integer.MAX_VALUE};
        for (int i : wrongPlaces) {
            Check.due("getStack(0, " + i + ")", vm.getStack(0, i), 0);
            Check.due("getFrame(0, " + i + ", 0)", vm.getFrame(0, i, 0), 0);
            Check.due("getFrame(0, " + i + ", 1)", vm.getFrame(0, i, 1), 0);
        }
        Check.due("getFrame(0, 2, 0)", vm.getFrame(0, 2, 0), 0);
        Check.due("getStack(1, 8)", vm.getStack(1, 8), 0);
        Check.due("getFrame(1, 8, 0)", vm.getFrame(1, 8, 0), 0);
        Check.due("getStack(1, -1)", vm.getStack(1, -1), 0);
        Check.due("getFrame(1, -1, 0)", vm.getFrame(1, -1, 0), 0);
        int[] wrongThreadFields = {-1, 8, 9, Integer.MIN_VALUE, Integer.MAX_VALUE};
        for (int field : wrongThreadFields) {
            Check.due("getThread(0, " + field + ")", vm.getThread(0, field), -1);
        }
        int[] wrongFrameFields = {-1, 3, 4, Integer.MIN_VALUE, Integer.MAX_VALUE};
        for (int field : wrongFrameFields) {
            Check.due("getFrame(0, 1, " + field + ")", vm.getFrame(0, 1, field), 0);
        }
        Check.due("after the reads", Snapshot.of(vm), before);
    }

    private static void wrongReadsOfResources() {
        AsyncMaskVm vm = busy().vm;
        String before = Snapshot.of(vm);
        int[] wrongResources = {-1, 8, 9, Integer.MIN_VALUE, Integer.MAX_VALUE};
        int[] wrongFields = {-1, 3, 4, Integer.MIN_VALUE, Integer.MAX_VALUE};
        for (int r : wrongResources) {
            for (int field = 0; field <= 2; field++) {
                Check.due("getResource(" + r + ", " + field + ")", vm.getResource(r, field), -1);
            }
        }
        for (int field : wrongFields) {
            Check.due("getResource(5, " + field + ")", vm.getResource(5, field), -1);
        }
        Check.due("after the reads", Snapshot.of(vm), before);
    }
}
