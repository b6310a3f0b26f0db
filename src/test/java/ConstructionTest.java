// Promise 1.
public final class ConstructionTest {
    public static void main(String[] args) {
        capacities(Integer.MIN_VALUE, 2, Integer.MIN_VALUE, 8);
        capacities(-1, 2, -1, 8);
        capacities(0, 2, 0, 8);
        capacities(1, 2, 7, 8);
        capacities(2, 2, 8, 8);
        capacities(3, 3, 9, 9);
        capacities(4, 4, 63, 63);
        capacities(4, 4, 64, 64);
        capacities(5, 4, 65, 64);
        capacities(Integer.MAX_VALUE, 4, Integer.MAX_VALUE, 64);
        capacities(2, 2, 64, 64);
        capacities(4, 4, 8, 8);
        objectsAreApart();
        Check.end();
    }

    private static void capacities(int threadCap, int threads, int codeCap, int cells) {
        String name = "new AsyncMaskVm(" + threadCap + ", " + codeCap + ")";
        AsyncMaskVm vm = new AsyncMaskVm(threadCap, codeCap);
        Check.due(name + ": getCodeSize()", vm.getCodeSize(), 0);
        Check.due(name + ": getThreadCount()", vm.getThreadCount(), 0);
        for (int r = 0; r < 8; r++) {
            Check.due(name + ": holder of " + r, vm.getResource(r, 0), -1);
            Check.due(name + ": acquires of " + r, vm.getResource(r, 1), 0);
            Check.due(name + ": releases of " + r, vm.getResource(r, 2), 0);
        }
        int loaded = 0;
        for (int i = 0; i < 100; i++) {
            loaded += vm.load(AsyncMaskVm.NOP, i) ? 1 : 0;
        }
        int spawned = 0;
        for (int i = 0; i < 10; i++) {
            spawned += vm.spawn(0) >= 0 ? 1 : 0;
        }
        Check.due(name + ": cells that fit", loaded, cells);
        Check.due(name + ": threads that fit", spawned, threads);
    }

    private static void objectsAreApart() {
        AsyncMaskVm one = new AsyncMaskVm(2, 8);
        AsyncMaskVm other = new AsyncMaskVm(2, 8);
        String fresh = Snapshot.of(other);
        one.load(AsyncMaskVm.BRACKET, 3);
        one.spawn(0);
        one.step(0);
        one.throwTo(0, 5);
        Check.due("a second object", Snapshot.of(other), fresh);
    }
}
