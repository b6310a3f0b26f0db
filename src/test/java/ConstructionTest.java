// Promise 1.
public final class ConstructionTest extends Names {
    private static final int[] ANY = {MIN, MIN + 1, -64, -1, 0, 1, 2, 3, 4, 5, 7, 8, 9, 63, 64, 65, 256, MAX - 1, MAX};

    public static void main(String[] args) {
        Check.sentence("`new AsyncMaskVm(threadCap, codeCap)` accepts any ints.", ConstructionTest::anyInts);
        Check.sentence("a value below the least becomes the least", ConstructionTest::tooSmall);
        Check.sentence("a value above the greatest becomes the greatest", ConstructionTest::tooLarge);
        Check.sentence("`threadCap` ends in [2,4] and `codeCap` in [8,64]; values already in range are kept.",
                ConstructionTest::inRange);
        Check.sentence("At the start there is no code (`codeSize = 0`), no threads (`threadCount = 0`), and every "
                + "resource is free with holder -1, acquires 0 and releases 0.", ConstructionTest::atTheStart);
        objectsAreApart();
        Check.end();
    }

    private static void capacities(int threadCap, int codeCap, int threads, int cells) {
        String name = "new AsyncMaskVm(" + threadCap + ", " + codeCap + ")";
        AsyncMaskVm vm = new AsyncMaskVm(threadCap, codeCap);
        int loaded = 0;
        for (int i = 0; i < 100; i++) {
            loaded += vm.load(NOP, i) ? 1 : 0;
        }
        int spawned = 0;
        for (int i = 0; i < 10; i++) {
            spawned += vm.spawn(0) >= 0 ? 1 : 0;
        }
        Check.due(name + ": cells that fit", loaded, cells);
        Check.due(name + ": threads that fit", spawned, threads);
    }

    private static void anyInts() {
        for (int threadCap : ANY) {
            for (int codeCap : ANY) {
                capacities(threadCap, codeCap, Math.min(4, Math.max(2, threadCap)), Math.min(64, Math.max(8, codeCap)));
            }
        }
    }

    private static void tooSmall() {
        capacities(1, 7, 2, 8);
        capacities(0, 0, 2, 8);
        capacities(-1, -1, 2, 8);
        capacities(MIN, MIN, 2, 8);
        capacities(1, 20, 2, 20);
        capacities(3, 7, 3, 8);
    }

    private static void tooLarge() {
        capacities(5, 65, 4, 64);
        capacities(MAX, MAX, 4, 64);
        capacities(5, 20, 4, 20);
        capacities(3, 65, 3, 64);
        capacities(MIN, MAX, 2, 64);
        capacities(MAX, MIN, 4, 8);
    }

    private static void inRange() {
        for (int threadCap = 2; threadCap <= 4; threadCap++) {
            for (int codeCap = 8; codeCap <= 64; codeCap++) {
                capacities(threadCap, codeCap, threadCap, codeCap);
            }
        }
    }

    private static void atTheStart() {
        for (int threadCap : ANY) {
            for (int codeCap : ANY) {
                Probe p = Probe.sized("new AsyncMaskVm(" + threadCap + ", " + codeCap + ")", threadCap, codeCap);
                Check.due("getCodeSize()", p.vm.getCodeSize(), 0);
                Check.due("getThreadCount()", p.vm.getThreadCount(), 0);
                p.everyResource(-1, 0, 0);
            }
        }
    }

    private static void objectsAreApart() {
        Probe other = Probe.sized("a second object", 2, 8);
        other.changesNothing("calls on the first", Probe::busy);
    }
}
