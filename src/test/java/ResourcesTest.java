import java.lang.reflect.Field;

// 'A property of resources' in small runs; LongRunsTest looks at it in long ones.
public final class ResourcesTest extends Names {
    public static void main(String[] args) {
        Check.sentence("acquires - releases (in wrapping int arithmetic) is 1 if h >= 0 and 0 if h = -1",
                ResourcesTest::countersWrap);
        Check.sentence("Whenever h = t >= 0, thread t is ALIVE and has exactly one frame of kind F_BRACKET with arg r, and "
                + "no other thread has a frame of kind F_BRACKET with arg r.", ResourcesTest::oneFrameOfOneHolder);
        Check.sentence("So every completed acquire of r is matched by at most one release, and by exactly one once its "
                + "thread is DONE or DIED", ResourcesTest::everyEndReleasesOnce);
        Check.sentence("no release occurs without a prior unmatched acquire", ResourcesTest::failedAcquiresReleaseNothing);
        Check.sentence("Halting releases every bracket still open.", ResourcesTest::haltReleases);
        Check.end();
    }

    // By calls alone a counter wraps after some four thousand million steps, so the counters are set near their end.
    private static void setCounters(AsyncMaskVm vm, int r, int count) {
        try {
            for (String name : new String[] {"acquires", "releases"}) {
                Field field = AsyncMaskVm.class.getDeclaredField(name);
                field.setAccessible(true);
                ((int[]) field.get(vm))[r] = count;
            }
        } catch (ReflectiveOperationException missing) {
            throw new IllegalStateException("the class keeps its counters elsewhere now", missing);
        }
    }

    private static void countersWrap() {
        for (int r = 0; r < 8; r++) {
            Probe p = new Probe("resource " + r, BRACKET, r, END, 0, JMP, 0).spawn(0);
            setCounters(p.vm, r, MAX - 1);
            p.run(0, 1).resource(r, 0, MAX, MAX - 1).run(0, 2).resource(r, -1, MAX, MAX);
            p.run(0, 1).resource(r, 0, MIN, MAX);
            ResourceProperty.look("between the wraps", p.vm);
            p.run(0, 1).resource(r, -1, MIN, MIN);
            ResourceProperty.look("after the wraps", p.vm);
        }
    }

    private static void oneFrameOfOneHolder() {
        Probe p = new Probe("two threads at one resource", BRACKET, 0, BRACKET, 1, BRACKET, 0, END, 0);
        p.spawn(0, 0, 3).run(0, 2);
        ResourceProperty.look("held", p.vm);
        p.step(0, BLOCKED).step(1, BLOCKED);
        ResourceProperty.look("after blocked steps", p.vm);
        p.resource(0, 0, 1, 0).resource(1, 0, 1, 0).frames(0, F_BRACKET, 0, 0, F_BRACKET, 1, 0).frames(1);
    }

    // Thread 0 takes all eight resources and then ends in each of the ways there are.
    private static void everyEndReleasesOnce() {
        int[][] ends = {{HALT, 0}, {THROW, 0}, {POP, 0}, {CATCH, 0}, {MASK, 0}, {BRACKET, 8}, {BRACKET, -1}, {JMP, -1}};
        for (int[] end : ends) {
            Probe p = new Probe("end by " + end[0]).takeAll().code(end);
            p.spawn(0).run(0, end[0] == JMP ? 10 : 9).everyResource(-1, 1, 1).empty(0);
            Check.due("ended by " + end[0], p.vm.getThread(0, 0) == ALIVE, false);
            ResourceProperty.look("end by " + end[0], p.vm);
            p.stepChangesNothing(0, NOSTEP);
        }
        Probe self = new Probe("end by a throw to self").code(PUSH, 5).takeAll().code(THROWTO, 0);
        self.spawn(0).run(0, 10).died(0, 10, UNMASKED, 5).everyResource(-1, 1, 1);
        Probe delivery = new Probe("end by delivery").takeAll().code(NOP, 0);
        delivery.spawn(0).run(0, 8).throwTo(0, 5, 6).step(0, DELIVERED).died(0, 8, UNMASKED, 5).everyResource(-1, 1, 1);
        Probe caught = new Probe("release by a catch", CATCH, 9, BRACKET, 2, THROW, 0);
        caught.spawn(0).run(0, 3).resource(2, -1, 1, 1).run(0, 1).died(0, 9, UNMASKED, E_BADPC).resource(2, -1, 1, 1);
    }

    private static void failedAcquiresReleaseNothing() {
        Probe wrong = new Probe("wrong resource", BRACKET, 8).spawn(0).run(0, 1);
        wrong.died(0, 1, UNMASKED, E_BADRES).everyResource(-1, 0, 0);
        Probe full = new Probe("full frames").repeat(8, MASK, 0).code(BRACKET, 3).spawn(0).run(0, 9);
        full.died(0, 9, UNMASKED, E_FRAMES).everyResource(-1, 0, 0);
        Probe held = new Probe("held by another", BRACKET, 3).spawn(0, 0).run(0, 1).step(1, BLOCKED);
        held.throwTo(1, 5).step(1, DELIVERED).died(1, 0, UNMASKED, 5).resource(3, 0, 1, 0);
        Probe other = new Probe("ends of other frames", BRACKET, 3, MASK, 1, END, 0, CATCH, 3, END, 0).spawn(0);
        other.run(0, 5).resource(3, 0, 1, 0);
    }

    private static void haltReleases() {
        Probe p = new Probe("two holders", BRACKET, 0, BRACKET, 7, HALT, 0, BRACKET, 3);
        p.spawn(0, 3).run(1, 1).run(0, 3).resource(0, -1, 1, 1).resource(7, -1, 1, 1).resource(3, 1, 1, 0);
        ResourceProperty.look("after a halt", p.vm);
    }
}
