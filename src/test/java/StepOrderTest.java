// Promise 4: what a step decides and in which order, and what it does not change.
public final class StepOrderTest extends Names {
    public static void main(String[] args) {
        Check.sentence("`tid` not in `[0,threadCount)`", StepOrderTest::noSuchThread);
        Check.sentence("or the thread is not ALIVE: answers NOSTEP and changes nothing.", StepOrderTest::finishedThreads);
        Check.sentence("The pending queue is non-empty", StepOrderTest::emptyQueueDeliversNothing);
        Check.sentence("`mask == UNMASKED`", StepOrderTest::unmaskedDelivers);
        Check.sentence("(`mask == MASKED` and BLOCKED(tid))", StepOrderTest::maskedDeliversOnlyBlocked);
        Check.sentence("the oldest value e is removed from the queue", StepOrderTest::oldestIsDeliveredFirst);
        Check.sentence("No instruction runs.", StepOrderTest::deliveryRunsNoInstruction);
        Check.sentence("UNINTERRUPTIBLE never delivers.", StepOrderTest::uninterruptibleNeverDelivers);
        Check.sentence("BLOCKED(tid): answers BLOCKED and changes nothing.", StepOrderTest::blockedChangesNothing);
        Check.sentence("pc not in `[0,codeSize)`: E_BADPC is raised in tid (pc is not advanced) and the answer is EXECUTED.",
                StepOrderTest::badPc);
        Check.sentence("deciding in this order", StepOrderTest::order);
        Check.sentence("This holds even if the cell raised, halted or killed the thread.",
                StepOrderTest::executedAllTheSame);
        Check.sentence("When a cell executes, `pc := pc + 1` happens first, then the effect.", StepOrderTest::pcAdvances);
        Check.sentence("Any error named below is raised with that advanced pc already in place.",
                StepOrderTest::errorsSeeAdvancedPc);
        Check.sentence("What a step does not change", StepOrderTest::othersStay);
        Check.end();
    }

    private static void noSuchThread() {
        Probe none = new Probe("no thread", NOP, 0);
        for (int tid : new int[] {MIN, -1, 0, 1, 3, 4, MAX}) {
            none.stepChangesNothing(tid, NOSTEP);
        }
        Probe two = Probe.busy();
        for (int tid : new int[] {MIN, -2, -1, 2, 3, 4, MAX}) {
            two.stepChangesNothing(tid, NOSTEP);
        }
        Probe four = new Probe("four threads", NOP, 0);
        four.spawn(0, 0, 0, 0).stepChangesNothing(-1, NOSTEP).stepChangesNothing(4, NOSTEP).run(0, 1).run(3, 1);
    }

    private static void finishedThreads() {
        Probe p = new Probe("finished", HALT, 0, BRACKET, 9, NOP, 0);
        p.spawn(0, 1, 2).run(0, 1).run(1, 1).throwTo(2, 6).step(2, DELIVERED);
        p.done(0, 1, UNMASKED).died(1, 2, UNMASKED, E_BADRES).died(2, 2, UNMASKED, 6);
        for (int tid = 0; tid <= 2; tid++) {
            p.stepChangesNothing(tid, NOSTEP).stepChangesNothing(tid, NOSTEP);
        }
    }

    private static void emptyQueueDeliversNothing() {
        for (int m = 0; m <= 2; m++) {
            Probe p = new Probe("mask " + m, MASK, m, BRACKET, 0, BRACKET, 0);
            p.spawn(0).run(0, 2).alive(0, 2, m).stepChangesNothing(0, BLOCKED);
        }
        Probe after = new Probe("emptied queue", CATCH, 1, NOP, 0);
        after.spawn(0).run(0, 1).throwTo(0, 5).step(0, DELIVERED).pending(0).run(0, 1).alive(0, 2, UNMASKED);
    }

    private static void unmaskedDelivers() {
        Probe p = new Probe("unmasked", CATCH, 3, PUSH, 1, PUSH, 2, NOP, 0);
        p.spawn(0).run(0, 2).throwTo(0, 55).step(0, DELIVERED).alive(0, 3, UNMASKED).stack(0, 55).frames(0).pending(0);
        p.throwTo(0, 56).step(0, DELIVERED).died(0, 3, UNMASKED, 56);
        Probe inside = new Probe("unmasked inside of a mask", MASK, 2, CATCH, 9, MASK, 0);
        inside.spawn(0).run(0, 3).throwTo(0, 57).step(0, DELIVERED).alive(0, 9, UNINTERRUPTIBLE).stack(0, 57);
    }

    private static void maskedDeliversOnlyBlocked() {
        Probe bracket = new Probe("at a bracket", BRACKET, 0, END, 0, MASK, 1, NOP, 0, BRACKET, 0);
        bracket.spawn(0, 2).run(0, 1).run(1, 1).throwTo(1, 7, 8);
        bracket.run(1, 1).alive(1, 4, MASKED).pending(1, 7, 8).blocked(1, true);
        bracket.step(1, DELIVERED).died(1, 4, UNMASKED, 7).resource(0, 0, 1, 0);
        Probe free = new Probe("at a free bracket", BRACKET, 0, END, 0, MASK, 1, BRACKET, 0);
        free.spawn(0, 2).run(0, 1).run(1, 1).throwTo(1, 7).run(0, 1).run(1, 1).pending(1, 7).resource(0, 1, 2, 1);
        Probe own = new Probe("at its own bracket", MASK, 1, CATCH, 9, BRACKET, 0, BRACKET, 0);
        own.spawn(0).run(0, 3).throwTo(0, 7).step(0, DELIVERED).alive(0, 9, MASKED).stack(0, 7).resource(0, -1, 1, 1);
        Probe full = new Probe("at a full queue", MASK, 1, PUSH, 9, THROWTO, 1);
        full.spawn(0, 0).run(0, 2).throwTo(0, 50).throwTo(1, 1, 2, 3, 4).blocked(0, true);
        full.step(0, DELIVERED).died(0, 2, UNMASKED, 50).pending(1, 1, 2, 3, 4);
        Probe room = new Probe("at a queue with room", MASK, 1, PUSH, 9, THROWTO, 1);
        room.spawn(0, 0).run(0, 2).throwTo(0, 50).throwTo(1, 1, 2, 3).run(0, 1).pending(0, 50).pending(1, 1, 2, 3, 9);
        Probe outside = new Probe("outside of the code", MASK, 1, CATCH, 0);
        outside.spawn(0).run(0, 2).throwTo(0, 50).run(0, 1).alive(0, 0, MASKED).stack(0, E_BADPC).pending(0, 50);
    }

    private static void oldestIsDeliveredFirst() {
        Probe p = new Probe("oldest first", CATCH, 0, CATCH, 1, CATCH, 2, CATCH, 3, NOP, 0);
        p.spawn(0).run(0, 4).throwTo(0, 11, 12, 13, 14);
        p.step(0, DELIVERED).stack(0, 11).pending(0, 12, 13, 14).alive(0, 3, UNMASKED);
        p.throwTo(0, 15).step(0, DELIVERED).stack(0, 12).pending(0, 13, 14, 15).alive(0, 2, UNMASKED);
        p.step(0, DELIVERED).stack(0, 13).pending(0, 14, 15).alive(0, 1, UNMASKED);
        p.step(0, DELIVERED).stack(0, 14).pending(0, 15).alive(0, 0, UNMASKED);
        p.step(0, DELIVERED).died(0, 0, UNMASKED, 15);
        Probe four = new Probe("four full queues", CATCH, 0);
        four.spawn(0, 0, 0, 0);
        for (int t = 0; t < 4; t++) {
            four.run(t, 1).throwTo(t, 10 * t + 1, 10 * t + 2, 10 * t + 3, 10 * t + 4);
        }
        for (int t = 3; t >= 0; t--) {
            four.step(t, DELIVERED).stack(t, 10 * t + 1);
        }
        for (int t = 0; t < 4; t++) {
            four.pending(t, 10 * t + 2, 10 * t + 3, 10 * t + 4);
        }
    }

    // The cell at pc is one whose effect would be seen.
    private static void deliveryRunsNoInstruction() {
        Probe push = new Probe("before a push", CATCH, 1, PUSH, 6);
        push.spawn(0).run(0, 1).throwTo(0, 5).step(0, DELIVERED).alive(0, 1, UNMASKED).stack(0, 5);
        Probe halt = new Probe("before a halt", HALT, 0);
        halt.spawn(0).throwTo(0, 5).step(0, DELIVERED).died(0, 0, UNMASKED, 5);
        Probe bracket = new Probe("before a bracket", BRACKET, 4);
        bracket.spawn(0).throwTo(0, 5).step(0, DELIVERED).died(0, 0, UNMASKED, 5).resource(4, -1, 0, 0);
        Probe throwTo = new Probe("before a throw to another", PUSH, 6, THROWTO, 1);
        throwTo.spawn(0, 0).run(0, 1).throwTo(0, 5).step(0, DELIVERED).died(0, 1, UNMASKED, 5).pending(1);
    }

    private static void uninterruptibleNeverDelivers() {
        Probe p = new Probe("full queue", BRACKET, 0, END, 0, MASK, 2, NOP, 0, BRACKET, 0);
        p.spawn(0, 2).run(0, 1).run(1, 1).throwTo(1, 7, 8, 9, 10).run(1, 1).pending(1, 7, 8, 9, 10);
        p.stepChangesNothing(1, BLOCKED).stepChangesNothing(1, BLOCKED);
        p.run(0, 1).run(1, 1).resource(0, 1, 2, 1).pending(1, 7, 8, 9, 10).alive(1, 5, UNINTERRUPTIBLE);
        Probe throwTo = new Probe("at a full queue", MASK, 2, PUSH, 9, THROWTO, 1);
        throwTo.spawn(0, 0).run(0, 2).throwTo(0, 50).throwTo(1, 1, 2, 3, 4).stepChangesNothing(0, BLOCKED);
        Probe outside = new Probe("outside of the code", MASK, 2, CATCH, 0);
        outside.spawn(0).run(0, 2).throwTo(0, 50).run(0, 1).alive(0, 0, UNINTERRUPTIBLE).stack(0, E_BADPC).pending(0, 50);
    }

    private static void blockedChangesNothing() {
        Probe bracket = new Probe("at a bracket", BRACKET, 7, PUSH, 5, CATCH, 9, BRACKET, 7);
        bracket.spawn(0, 1).run(0, 1).run(1, 2).stepChangesNothing(1, BLOCKED).stepChangesNothing(1, BLOCKED);
        Probe throwTo = new Probe("at a full queue", PUSH, 9, THROWTO, 1);
        throwTo.spawn(0, 0).run(0, 1).throwTo(1, 1, 2, 3, 4).stepChangesNothing(0, BLOCKED).stepChangesNothing(0, BLOCKED);
    }

    private static void badPc() {
        for (int pc : new int[] {MIN, -1, 2, 3, 63, 64, MAX}) {
            Probe p = new Probe("pc " + pc, CATCH, 70, JMP, pc);
            p.spawn(0, pc).run(1, 1).died(1, pc, UNMASKED, E_BADPC);
            p.run(0, 2).alive(0, pc, UNMASKED).run(0, 1).alive(0, 70, UNMASKED).stack(0, E_BADPC).frames(0);
        }
        Probe none = new Probe("no code");
        none.spawn(0).run(0, 1).died(0, 0, UNMASKED, E_BADPC);
        Probe full = new Probe("end of full code").repeat(64, NOP, 0);
        full.spawn(63).run(0, 1).alive(0, 64, UNMASKED).run(0, 1).died(0, 64, UNMASKED, E_BADPC);
        Probe masked = new Probe("no mask holds it up", CATCH, 1, MASK, 2, JMP, -9);
        masked.spawn(0).run(0, 3).alive(0, -9, UNINTERRUPTIBLE).run(0, 1).alive(0, 1, UNMASKED).stack(0, E_BADPC);
    }

    private static void order() {
        Probe finished = new Probe("finished goes before blocked and bad pc", BRACKET, 0, HALT, 0, BRACKET, 0);
        finished.spawn(0, 1, 1).run(0, 1).run(1, 1).stepChangesNothing(1, NOSTEP);
        Probe delivery = new Probe("delivery goes before blocked and bad pc", BRACKET, 0);
        delivery.spawn(0, 0, 99).run(0, 1).throwTo(1, 7).blocked(1, true).step(1, DELIVERED).died(1, 0, UNMASKED, 7);
        delivery.throwTo(2, 8).step(2, DELIVERED).died(2, 99, UNMASKED, 8);
        Probe held = new Probe("blocked goes before full frames", BRACKET, 0).repeat(7, CATCH, 9).code(BRACKET, 0);
        held.spawn(0).run(0, 8).field(0, 5, 8).stepChangesNothing(0, BLOCKED);
    }

    private static void executedAllTheSame() {
        Probe raised = new Probe("raised", CATCH, 9, THROW, 0);
        raised.spawn(0).run(0, 1).step(0, EXECUTED).alive(0, 9, UNMASKED);
        Probe halted = new Probe("halted", HALT, 0);
        halted.spawn(0).step(0, EXECUTED).done(0, 1, UNMASKED);
        Probe killed = new Probe("killed", POP, 0);
        killed.spawn(0).step(0, EXECUTED).died(0, 1, UNMASKED, E_UNDERFLOW);
    }

    private static void pcAdvances() {
        Probe p = new Probe("full code").repeat(64, NOP, 0);
        p.spawn(0);
        for (int pc = 0; pc < 64; pc++) {
            p.alive(0, pc, UNMASKED).run(0, 1);
        }
        p.alive(0, 64, UNMASKED);
        Probe jump = new Probe("a jump to itself", JMP, 0);
        jump.spawn(0).run(0, 1).alive(0, 0, UNMASKED);
    }

    private static void errorsSeeAdvancedPc() {
        for (int op : new int[] {POP, DUP, ADD, SUB, JZ, THROW, THROWTO, END, BRACKET}) {
            Probe p = new Probe("last cell " + op).repeat(63, NOP, 0).code(op, 50);
            p.spawn(63).run(0, 1).field(0, 0, DIED).field(0, 1, 64);
        }
        for (int op : new int[] {PUSH, DUP, MYID}) {
            Probe p = new Probe("full stack at " + op).repeat(8, PUSH, 1).code(op, 0);
            p.spawn(0).run(0, 9).died(0, 9, UNMASKED, E_OVERFLOW);
        }
        for (int op : new int[] {CATCH, MASK, BRACKET}) {
            Probe p = new Probe("full frames at " + op).repeat(8, MASK, 1).code(op, 0);
            p.spawn(0).run(0, 9).died(0, 9, UNMASKED, E_FRAMES);
        }
    }

    // Thread 2 runs each cell once beside two threads that have much to lose.
    private static void othersStay() {
        for (int op = 0; op <= 15; op++) {
            Probe p = Probe.busy();
            int start = p.vm.getCodeSize();
            p.code(PUSH, 0, PUSH, 0, CATCH, 9, op, 6).spawn(start, start).run(2, 3);
            String zero = Snapshot.thread(p.vm, 0);
            String one = Snapshot.thread(p.vm, 1);
            String three = Snapshot.thread(p.vm, 3);
            String code = Snapshot.code(p.vm);
            p.run(2, 1);
            Check.due("thread 0 after " + op, Snapshot.thread(p.vm, 0), zero);
            Check.due("thread 1 after " + op, Snapshot.thread(p.vm, 1), one);
            Check.due("thread 3 after " + op, Snapshot.thread(p.vm, 3), three);
            Check.due("code after " + op, Snapshot.code(p.vm), code);
            p.resource(5, 0, 1, 0).resource(0, -1, 0, 0).resource(6, op == BRACKET ? 2 : -1, op == BRACKET ? 1 : 0, 0);
        }
        Probe append = Probe.busy();
        int start = append.vm.getCodeSize();
        append.code(PUSH, 77, THROWTO, 0).spawn(start).run(2, 1);
        String one = Snapshot.thread(append.vm, 1);
        String resources = Snapshot.resources(append.vm);
        append.run(2, 1).alive(0, 5, MASKED).stack(0, 21, 22, 23).pending(0, 41, 42, 77);
        append.frames(0, F_MASK, 1, UNMASKED, F_BRACKET, 5, MASKED);
        Check.due("thread 1 after a throw to 0", Snapshot.thread(append.vm, 1), one);
        Check.due("resources after a throw to 0", Snapshot.resources(append.vm), resources);
    }
}
