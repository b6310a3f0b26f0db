// 'Raise e in thread t', by each of the ways to raise.
public final class RaiseTest extends Names {
    private static final int[] VALUES = {MIN, -6, -5, -4, -3, -2, -1, 0, 1, 2, 3, 8, MAX};

    public static void main(String[] args) {
        Check.sentence("If t's frame stack is empty: `state := DIED`, `exit := e`; the operand stack, frame stack and "
                + "pending queue are emptied; stop.", RaiseTest::noFrames);
        Check.sentence("Otherwise pop the top frame and set `mask :=` its saved.", RaiseTest::restoresMasks);
        Check.sentence("F_BRACKET (arg r): `holder[r] := -1`, `releases[r] += 1`; repeat.", RaiseTest::releasesBrackets);
        Check.sentence("F_MASK: repeat.", RaiseTest::passesMasks);
        Check.sentence("F_CATCH (arg h): empty the operand stack, push e, `pc := h`; stop.", RaiseTest::stopsAtTheNearestCatch);
        Check.sentence("During a raise, pc changes only by a catch.", RaiseTest::pcStays);
        Check.sentence("Exception values are any ints; errors raise the `E_` constants.", RaiseTest::anyValue);
        Check.sentence("`exit` (0, or the uncaught exception value once DIED)", RaiseTest::exitIsOfTheUncaught);
        Check.sentence("`pc` (any int)", RaiseTest::handlerMayStandAnywhere);
        Check.sentence("A raise changes only the fields named in its definition.", RaiseTest::changesNothingElse);
        Check.end();
    }

    private static void noFrames() {
        Probe full = new Probe("full stack and queue").repeat(8, PUSH, 6);
        full.spawn(0).run(0, 8).throwTo(0, 31, 32, 33, 34).depths(0, 8, 0, 4);
        full.step(0, DELIVERED).died(0, 8, UNMASKED, 31).stepChangesNothing(0, NOSTEP);
        Probe frames = new Probe("full frames too").repeat(8, PUSH, 6).repeat(8, MASK, 2).code(PUSH, 7);
        frames.spawn(0).run(0, 16).throwTo(0, 31, 32, 33, 34).depths(0, 8, 8, 4);
        frames.run(0, 1).died(0, 17, UNMASKED, E_OVERFLOW).stepChangesNothing(0, NOSTEP);
        Probe bare = new Probe("nothing at all", THROW, 0);
        bare.spawn(0).run(0, 1).died(0, 1, UNMASKED, E_UNDERFLOW);
    }

    private static void restoresMasks() {
        for (int saved = 0; saved <= 2; saved++) {
            for (int inner = 0; inner <= 2; inner++) {
                Probe p = new Probe("from " + inner + " to " + saved, MASK, saved, CATCH, 40, MASK, inner, THROW, 0);
                p.spawn(0).run(0, 3).alive(0, 3, inner).run(0, 1).alive(0, 40, saved).frames(0, F_MASK, saved, UNMASKED);
                Probe dying = new Probe("dying from " + inner, MASK, saved, MASK, inner, THROW, 0);
                dying.spawn(0).run(0, 3).died(0, 3, UNMASKED, E_UNDERFLOW);
            }
        }
    }

    private static void releasesBrackets() {
        Probe dying = new Probe("dying under eight").takeAll().code(THROW, 0);
        dying.spawn(0, 8).run(0, 8).everyResource(0, 1, 0).depths(0, 0, 8, 0);
        dying.run(0, 1).everyResource(-1, 1, 1).died(0, 9, UNMASKED, E_UNDERFLOW);
        Probe p = new Probe("catch between brackets", BRACKET, 1, CATCH, 40, BRACKET, 2, BRACKET, 3, THROW, 0, BRACKET, 4);
        p.spawn(0, 5).run(1, 1).run(0, 5).alive(0, 40, UNMASKED).frames(0, F_BRACKET, 1, UNMASKED);
        p.resource(1, 0, 1, 0).resource(2, -1, 1, 1).resource(3, -1, 1, 1).resource(4, 1, 1, 0).resource(0, -1, 0, 0);
    }

    private static void passesMasks() {
        Probe p = new Probe("seven masks over a catch", CATCH, 40).repeat(7, MASK, 2).code(THROW, 0);
        p.spawn(0).run(0, 8).depths(0, 0, 8, 0).run(0, 1).alive(0, 40, UNMASKED).stack(0, E_UNDERFLOW).frames(0);
        Probe dying = new Probe("eight masks").repeat(8, MASK, 1).code(THROW, 0);
        dying.spawn(0).run(0, 9).died(0, 9, UNMASKED, E_UNDERFLOW);
    }

    private static void stopsAtTheNearestCatch() {
        Probe full = new Probe("full stack", CATCH, 40).repeat(8, PUSH, 6).code(THROW, 0);
        full.spawn(0).run(0, 9).depths(0, 8, 1, 0).run(0, 1).alive(0, 40, UNMASKED).stack(0, 6).frames(0);
        Probe empty = new Probe("empty stack", CATCH, 40, NOP, 0);
        empty.spawn(0).run(0, 1).throwTo(0, 5).step(0, DELIVERED).alive(0, 40, UNMASKED).stack(0, 5).frames(0);
        Probe nested = new Probe("eight catches", CATCH, 40, CATCH, 41, CATCH, 42, CATCH, 43, CATCH, 44, CATCH, 45,
                CATCH, 46, CATCH, 47, THROW, 0);
        nested.spawn(0).run(0, 9).alive(0, 47, UNMASKED).stack(0, E_UNDERFLOW).depths(0, 1, 7, 0);
        for (int left = 6; left >= 0; left--) {
            nested.run(0, 1).alive(0, 40 + left, UNMASKED).stack(0, E_BADPC).depths(0, 1, left, 0);
        }
        nested.run(0, 1).died(0, 40, UNMASKED, E_BADPC);
    }

    private static void pcStays() {
        Probe delivered = new Probe("delivery", NOP, 0, NOP, 0);
        delivered.spawn(1).throwTo(0, 5).step(0, DELIVERED).died(0, 1, UNMASKED, 5);
        Probe thrown = new Probe("throw under frames", MASK, 1, BRACKET, 3, THROW, 0);
        thrown.spawn(0).run(0, 3).died(0, 3, UNMASKED, E_UNDERFLOW);
        Probe far = new Probe("no cell", NOP, 0);
        far.spawn(MIN).run(0, 1).died(0, MIN, UNMASKED, E_BADPC);
    }

    private static void anyValue() {
        for (int e : VALUES) {
            Probe thrown = new Probe("throw of " + e, CATCH, 40, PUSH, e, THROW, 0);
            thrown.spawn(0, 1).run(0, 3).alive(0, 40, UNMASKED).stack(0, e).run(1, 2).died(1, 3, UNMASKED, e);
            Probe self = new Probe("throw to self of " + e, CATCH, 40, PUSH, e, THROWTO, 0);
            self.spawn(0).run(0, 3).alive(0, 40, UNMASKED).stack(0, e);
            Probe alone = new Probe("uncaught throw to self of " + e, PUSH, e, THROWTO, 0);
            alone.spawn(0).run(0, 2).died(0, 2, UNMASKED, e);
            Probe other = new Probe("throw to another of " + e, PUSH, e, THROWTO, 1, CATCH, 40);
            other.spawn(0, 2).run(1, 1).run(0, 2).pending(1, e).step(1, DELIVERED).alive(1, 40, UNMASKED).stack(1, e);
            Probe outside = new Probe("throwTo of " + e, CATCH, 40);
            outside.spawn(0).run(0, 1).throwTo(0, e, e).step(0, DELIVERED).stack(0, e);
            outside.step(0, DELIVERED).died(0, 40, UNMASKED, e);
        }
    }

    private static void exitIsOfTheUncaught() {
        Probe caught = new Probe("caught", CATCH, 3, PUSH, 9, THROW, 0, PUSH, 0, THROW, 0);
        caught.spawn(0).field(0, 3, 0).run(0, 3).field(0, 3, 0).run(0, 2).died(0, 5, UNMASKED, 0);
        Probe halted = new Probe("halted after a catch", CATCH, 2, THROW, 0, HALT, 0);
        halted.spawn(0).run(0, 3).done(0, 3, UNMASKED);
    }

    private static void handlerMayStandAnywhere() {
        for (int h : new int[] {MIN, -1, 0, 1, 2, 63, 64, MAX}) {
            Probe p = new Probe("handler at " + h, CATCH, h, THROW, 0);
            p.spawn(0).run(0, 2).alive(0, h, UNMASKED).stack(0, E_UNDERFLOW).frames(0);
        }
    }

    private static void changesNothingElse() {
        Probe queue = new Probe("a catch leaves the queue", MASK, 2, CATCH, 4, THROW, 0, NOP, 0, NOP, 0);
        queue.spawn(0).run(0, 2).throwTo(0, 31, 32, 33, 34).run(0, 1).alive(0, 4, UNINTERRUPTIBLE).pending(0, 31, 32, 33, 34);
        Probe p = Probe.busy();
        int start = p.vm.getCodeSize();
        p.code(CATCH, 40, BRACKET, 1, THROW, 0).spawn(start, start + 1).run(2, 2);
        String zero = Snapshot.thread(p.vm, 0);
        String one = Snapshot.thread(p.vm, 1);
        String code = Snapshot.code(p.vm);
        p.run(2, 1).alive(2, 40, UNMASKED).run(3, 2).died(3, start + 3, UNMASKED, E_UNDERFLOW);
        Check.due("thread 0", Snapshot.thread(p.vm, 0), zero);
        Check.due("thread 1", Snapshot.thread(p.vm, 1), one);
        Check.due("code", Snapshot.code(p.vm), code);
        p.resource(1, -1, 2, 2).resource(5, 0, 1, 0);
    }
}
