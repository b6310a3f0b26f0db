// Long runs of mixed calls, the same ones each time, compared with the model call by call;
// after each call 'A property of resources' is looked at too.
public final class LongRunsTest {
    private static final int RUNS = 6000;
    private static final int CALLS = 250;
    private static final int[] EDGES = {Integer.MIN_VALUE, -6, -1, 0, 1, 2, 3, 7, 8, 15, 16, 64, Integer.MAX_VALUE};

    private static final int[] answered = new int[4];
    private static int seenCaught = 0;
    private static long seed = 20261115L;

    public static void main(String[] args) {
        for (int run = 0; run < RUNS && Check.wrong() == 0; run++) {
            oneRun(run);
        }
        // A run that never gets to a kind of answer would tell nothing of it.
        for (int kind = 0; kind <= 3; kind++) {
            Check.due("step answers of kind " + kind + " are frequent", answered[kind] > 5000, true);
        }
        Check.due("caught exceptions are frequent", seenCaught > 5000, true);
        Check.end();
    }

    private static int below(int bound) {
        seed = seed * 6364136223846793005L + 1442695040888963407L;
        return (int) ((seed >>> 33) % bound);
    }

    private static int edge() {
        return EDGES[below(EDGES.length)];
    }

    private static void oneRun(int run) {
        int threadCap = below(8) == 0 ? edge() : 2 + below(3);
        int codeCap = below(8) == 0 ? edge() : 8 + below(57);
        AsyncMaskVm vm = new AsyncMaskVm(threadCap, codeCap);
        Model model = new Model(threadCap, codeCap);
        String name = "run " + run + " of new AsyncMaskVm(" + threadCap + ", " + codeCap + ")";
        // Few resources make threads meet at them.
        int resources = 1 + below(8);
        int cells = below(40);
        for (int i = 0; i < cells; i++) {
            loadSome(name, vm, model, resources);
        }
        load(name, vm, model, AsyncMaskVm.JMP, 0);
        for (int call = 0; call < CALLS && Check.wrong() == 0 && !isOver(vm); call++) {
            oneCall(name + ", call " + call, vm, model, resources);
            Check.due(name + ", after call " + call, Snapshot.of(vm), model.snapshot());
            ResourceProperty.look(name + ", after call " + call, vm);
        }
    }

    private static void oneCall(String name, AsyncMaskVm vm, Model model, int resources) {
        int choice = below(40);
        if (choice == 0) {
            loadSome(name, vm, model, resources);
        } else if (choice <= 2) {
            int pc = below(6) == 0 ? edge() : below(vm.getCodeSize() + 1);
            Check.due(name + ": spawn(" + pc + ")", vm.spawn(pc), model.spawn(pc));
        } else if (choice <= 7) {
            int tid = below(8) == 0 ? edge() : below(4);
            int e = below(4) == 0 ? edge() : 100 + below(100);
            Check.due(name + ": throwTo(" + tid + ", " + e + ")", vm.throwTo(tid, e), model.throwTo(tid, e));
        } else {
            step(name, vm, model, below(20) == 0 ? edge() : below(vm.getThreadCount() + 1));
        }
    }

    private static void step(String name, AsyncMaskVm vm, Model model, int tid) {
        int framesBefore = vm.getThread(tid, 5);
        int want = model.step(tid);
        Check.due(name + ": step(" + tid + ")", vm.step(tid), want);
        answered[want]++;
        boolean delivered = want == AsyncMaskVm.DELIVERED;
        if (delivered && vm.getThread(tid, 0) == AsyncMaskVm.ALIVE && vm.getThread(tid, 5) < framesBefore) {
            seenCaught++;
        }
    }

    // Nothing moves any more, but a few calls on such a machine are looked at.
    private static boolean isOver(AsyncMaskVm vm) {
        boolean anyAlive = vm.getThreadCount() < 2;
        for (int tid = 0; tid < vm.getThreadCount(); tid++) {
            anyAlive |= vm.getThread(tid, 0) == AsyncMaskVm.ALIVE;
        }
        return !anyAlive && below(10) == 0;
    }

    private static void loadSome(String name, AsyncMaskVm vm, Model model, int resources) {
        int op = below(40) == 0 ? edge() : likelyOp();
        int arg = below(20) == 0 ? edge() : likelyArg(op, resources);
        load(name, vm, model, op, arg);
    }

    private static void load(String name, AsyncMaskVm vm, Model model, int op, int arg) {
        Check.due(name + ": load(" + op + ", " + arg + ")", vm.load(op, arg), model.load(op, arg));
    }

    // Cells that push operands and frames are taken more often, or most threads would die in their first steps.
    private static int likelyOp() {
        int[] builders = {AsyncMaskVm.PUSH, AsyncMaskVm.CATCH, AsyncMaskVm.CATCH, AsyncMaskVm.MASK, AsyncMaskVm.BRACKET};
        if (below(3) != 0) {
            return builders[below(builders.length)];
        }
        int op = below(16);
        return op == AsyncMaskVm.HALT && below(3) != 0 ? AsyncMaskVm.THROWTO : op;
    }

    private static int likelyArg(int op, int resources) {
        switch (op) {
            case AsyncMaskVm.JMP:
            case AsyncMaskVm.JZ:
            case AsyncMaskVm.CATCH:
                return below(20);
            case AsyncMaskVm.THROWTO:
                return below(4);
            case AsyncMaskVm.MASK:
                return below(3);
            case AsyncMaskVm.BRACKET:
                return below(resources);
            default:
                return below(3) - 1;
        }
    }
}
