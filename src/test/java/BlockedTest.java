// 'BLOCKED(t)': each of its conditions, met and just not met. Both getThread's field 7 and step tell it.
public final class BlockedTest extends Names {
    public static void main(String[] args) {
        Check.sentence("is true iff all of these hold: t is ALIVE", BlockedTest::onlyTheLiving);
        Check.sentence("`0 <= pc < codeSize`", BlockedTest::onlyInTheCode);
        Check.sentence("and the cell at pc is either", BlockedTest::onlyTwoOps);
        Check.sentence("(a) BRACKET with arg r in 0..7", BlockedTest::onlyAtResources);
        Check.sentence("and `holder[r] != -1`", BlockedTest::onlyIfHeld);
        Check.sentence("(held by any thread, t itself included)", BlockedTest::ownBracketBlocks);
        Check.sentence("(b) THROWTO with arg u, where t's stack depth >= 1", BlockedTest::onlyWithAnOperand);
        Check.sentence("`0 <= u < threadCount`", BlockedTest::onlyAtThreads);
        Check.sentence("`u != t`", BlockedTest::notAtItself);
        Check.sentence("thread u is ALIVE", BlockedTest::notAtFinishedThreads);
        Check.sentence("and u's pending queue holds QUEUE_CAP values", BlockedTest::onlyAtAFullQueue);
        Check.end();
    }

    private static void stuck(Probe p, int tid) {
        p.blocked(tid, true).stepChangesNothing(tid, BLOCKED);
    }

    private static void onlyTheLiving() {
        Probe p = new Probe("at a held bracket", BRACKET, 0, HALT, 0, BRACKET, 0, POP, 0, BRACKET, 0);
        p.spawn(0, 1, 3, 2).run(0, 1);
        p.run(1, 1).done(1, 2, UNMASKED).stepChangesNothing(1, NOSTEP);
        p.run(2, 1).died(2, 4, UNMASKED, E_UNDERFLOW).stepChangesNothing(2, NOSTEP);
        stuck(p, 3);
        p.throwTo(3, 8).step(3, DELIVERED).died(3, 2, UNMASKED, 8).stepChangesNothing(3, NOSTEP);
    }

    private static void onlyInTheCode() {
        for (int outside : new int[] {MIN, -1, 2, 3, 63, 64, MAX}) {
            Probe p = new Probe("pc " + outside, BRACKET, 0, BRACKET, 0);
            p.spawn(0, outside).run(0, 1).blocked(1, false).run(1, 1).died(1, outside, UNMASKED, E_BADPC);
        }
        Probe ends = new Probe("first and last cell", BRACKET, 0, NOP, 0).repeat(61, NOP, 0).code(BRACKET, 0);
        ends.spawn(0, 0, 63).run(0, 1);
        stuck(ends, 1);
        stuck(ends, 2);
    }

    // Every resource is held and every other queue is full, and still no other cell blocks.
    private static void onlyTwoOps() {
        for (int op = 0; op <= 15; op++) {
            Probe p = new Probe("op " + op).takeAll().repeat(2, PUSH, 0).code(op, 2);
            p.spawn(0, 8, 0).run(0, 8).run(1, 2).throwTo(0, 1, 2, 3, 4).throwTo(2, 1, 2, 3, 4);
            if (op == THROWTO || op == BRACKET) {
                stuck(p, 1);
            } else {
                p.blocked(1, false).run(1, 1);
            }
        }
    }

    private static void onlyAtResources() {
        for (int r : new int[] {MIN, -8, -1, 8, 9, 16, MAX}) {
            Probe p = new Probe("resource " + r).takeAll().code(BRACKET, r);
            p.spawn(0, 8).run(0, 8).blocked(1, false).run(1, 1).died(1, 9, UNMASKED, E_BADRES);
        }
        for (int r = 0; r < 8; r++) {
            Probe p = new Probe("resource " + r, BRACKET, r);
            p.spawn(0, 0).run(0, 1);
            stuck(p, 1);
        }
    }

    private static void onlyIfHeld() {
        for (int r = 0; r < 8; r++) {
            Probe p = new Probe("resource " + r, BRACKET, r, END, 0, BRACKET, (r + 1) % 8);
            p.spawn(0, 0, 2).blocked(1, false).run(0, 1).blocked(1, true).blocked(2, false);
            p.run(0, 1).blocked(1, false).run(1, 1).resource(r, 1, 2, 1);
        }
    }

    private static void ownBracketBlocks() {
        Probe p = new Probe("own bracket", BRACKET, 7, BRACKET, 7);
        p.spawn(0).run(0, 1);
        stuck(p, 0);
        for (int holder = 0; holder < 4; holder++) {
            Probe any = new Probe("held by " + holder, BRACKET, 3, BRACKET, 3);
            any.spawn(0, 0, 0, 0).run(holder, 1);
            for (int t = 0; t < 4; t++) {
                stuck(any, t);
            }
        }
    }

    private static void onlyWithAnOperand() {
        Probe none = new Probe("depth 0", THROWTO, 1);
        none.spawn(0, 0).throwTo(1, 1, 2, 3, 4).blocked(0, false);
        none.run(0, 1).died(0, 1, UNMASKED, E_UNDERFLOW).pending(1, 1, 2, 3, 4);
        for (int depth = 1; depth <= 8; depth++) {
            Probe p = new Probe("depth " + depth).repeat(depth, PUSH, 6).code(THROWTO, 1);
            p.spawn(0, 0).throwTo(1, 1, 2, 3, 4).run(0, depth);
            stuck(p, 0);
            p.field(0, 4, depth);
        }
    }

    private static void onlyAtThreads() {
        for (int u : new int[] {MIN, -4, -1, 3, 4, 7, MAX}) {
            Probe p = new Probe("thread " + u, PUSH, 6, THROWTO, u);
            p.spawn(0, 0, 0).run(1, 1).throwTo(0, 1, 2, 3, 4).throwTo(2, 1, 2, 3, 4);
            p.blocked(1, false).run(1, 1).alive(1, 2, UNMASKED).stack(1);
        }
        for (int u : new int[] {0, 2}) {
            Probe p = new Probe("thread " + u, PUSH, 6, THROWTO, u);
            p.spawn(0, 0, 0).run(1, 1).throwTo(u, 1, 2, 3, 4);
            stuck(p, 1);
        }
        Probe later = new Probe("spawned later", PUSH, 6, THROWTO, 1);
        later.spawn(0).run(0, 1).blocked(0, false).spawn(0).blocked(0, false).throwTo(1, 1, 2, 3, 4);
        stuck(later, 0);
    }

    private static void notAtItself() {
        for (int t = 0; t < 4; t++) {
            Probe p = new Probe("own queue of " + t, MASK, 2, PUSH, 9, THROWTO, t);
            p.spawn(0, 0, 0, 0).run(t, 2).throwTo(t, 1, 2, 3, 4).blocked(t, false);
            p.run(t, 1).died(t, 3, UNMASKED, 9);
        }
    }

    private static void notAtFinishedThreads() {
        Probe p = new Probe("a queue that was full", PUSH, 6, THROWTO, 1, MASK, 2, HALT, 0);
        p.spawn(0, 2).run(0, 1).run(1, 1).throwTo(1, 1, 2, 3, 4);
        stuck(p, 0);
        p.run(1, 1).done(1, 4, UNMASKED).blocked(0, false).run(0, 1).alive(0, 2, UNMASKED).empty(0).done(1, 4, UNMASKED);
        Probe died = new Probe("a queue that was full", PUSH, 6, THROWTO, 1);
        died.spawn(0, 0).run(0, 1).throwTo(1, 1, 2, 3, 4);
        stuck(died, 0);
        died.step(1, DELIVERED).died(1, 0, UNMASKED, 1).blocked(0, false).run(0, 1).died(1, 0, UNMASKED, 1);
    }

    private static void onlyAtAFullQueue() {
        Probe p = new Probe("queue", PUSH, 9, THROWTO, 1, CATCH, 2);
        p.spawn(0, 2).run(0, 1).run(1, 1).blocked(0, false);
        for (int e = 1; e <= 3; e++) {
            p.throwTo(1, e).blocked(0, false);
        }
        p.throwTo(1, 4);
        stuck(p, 0);
        p.step(1, DELIVERED).blocked(0, false).run(0, 1).alive(0, 2, UNMASKED).pending(1, 2, 3, 4, 9);
    }
}
