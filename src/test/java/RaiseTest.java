// 'Raise e in thread t', by each of the ways to raise.
public final class RaiseTest {
    private static final int NOP = AsyncMaskVm.NOP;
    private static final int PUSH = AsyncMaskVm.PUSH;
    private static final int THROW = AsyncMaskVm.THROW;
    private static final int CATCH = AsyncMaskVm.CATCH;
    private static final int MASK = AsyncMaskVm.MASK;
    private static final int BRACKET = AsyncMaskVm.BRACKET;

    public static void main(String[] args) {
        unwindsToTheNearestCatch();
        dyingReleasesAll();
        pendingOutlivesACatch();
        deathByDeliveryEmptiesTheQueue();
        raiseTouchesNoOtherThread();
        handlerMayStandAnywhere();
        Check.end();
    }

    private static void unwindsToTheNearestCatch() {
        Probe p = new Probe("nearest catch", BRACKET, 1, CATCH, 40, MASK, 2, CATCH, 50, MASK, 1, BRACKET, 2, MASK, 0,
                BRACKET, 3, PUSH, 8, PUSH, 9, THROW, 0);
        p.spawn(0).run(0, 11).alive(0, 50, 2).stack(0, 9).frames(0, 3, 1, 0, 1, 40, 0, 2, 2, 0);
        p.resource(1, 0, 1, 0).resource(2, -1, 1, 1).resource(3, -1, 1, 1);
    }

    private static void dyingReleasesAll() {
        Probe p = new Probe("dying releases", MASK, 1, BRACKET, 1, MASK, 2, BRACKET, 2, PUSH, 8, PUSH, 9, THROW, 0, BRACKET, 3);
        p.spawn(7, 0).run(0, 1).run(1, 6).throwTo(1, 70).run(1, 1).died(1, 7, 0, 9);
        p.resource(1, -1, 1, 1).resource(2, -1, 1, 1).resource(3, 0, 1, 0);
    }

    private static void pendingOutlivesACatch() {
        Probe p = new Probe("pending outlives a catch", MASK, 2, CATCH, 5, PUSH, 3, THROW, 0, NOP, 0, NOP, 0);
        p.spawn(0).run(0, 2).throwTo(0, 31, 32).run(0, 2).alive(0, 5, 2).stack(0, 3).pending(0, 31, 32);
        p.run(0, 1).alive(0, 6, 2).pending(0, 31, 32);
    }

    private static void deathByDeliveryEmptiesTheQueue() {
        Probe p = new Probe("death by delivery", PUSH, 1, BRACKET, 6, NOP, 0);
        p.spawn(0).run(0, 2).throwTo(0, 31, 32, 33, 34).step(0, AsyncMaskVm.DELIVERED);
        p.died(0, 2, 0, 31).resource(6, -1, 1, 1).step(0, AsyncMaskVm.NOSTEP);
    }

    private static void raiseTouchesNoOtherThread() {
        Probe p = new Probe("others", PUSH, 1, BRACKET, 6, MASK, 1, CATCH, 2, THROW, 0, BRACKET, 5);
        p.spawn(0, 3, 5, 4).run(0, 3).run(1, 1).throwTo(0, 5).throwTo(2, 6).step(2, AsyncMaskVm.DELIVERED);
        String zero = Snapshot.thread(p.vm, 0);
        String two = Snapshot.thread(p.vm, 2);
        String code = Snapshot.code(p.vm);
        p.run(1, 1).alive(1, 2, 0).run(3, 1).died(3, 5, 0, AsyncMaskVm.E_UNDERFLOW);
        Check.due("thread 0", Snapshot.thread(p.vm, 0), zero);
        Check.due("thread 2", Snapshot.thread(p.vm, 2), two);
        Check.due("code", Snapshot.code(p.vm), code);
        p.resource(6, 0, 1, 0);
    }

    private static void handlerMayStandAnywhere() {
        int[] handlers = {-1, 0, 64, Integer.MIN_VALUE, Integer.MAX_VALUE};
        for (int h : handlers) {
            Probe p = new Probe("handler at " + h, CATCH, h, THROW, 0);
            p.spawn(0).run(0, 2).alive(0, h, 0).stack(0, AsyncMaskVm.E_UNDERFLOW);
        }
    }
}
