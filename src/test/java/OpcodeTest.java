// Promise 4: the effect of each of the sixteen cells, its errors and its edges.
public final class OpcodeTest extends Names {
    private static final int[] WIDE = {MIN, MIN + 1, -64, -1, 0, 1, 2, 3, 7, 8, 63, 64, MAX - 1, MAX};

    public static void main(String[] args) {
        Check.sentence("Arithmetic wraps as Java `int` arithmetic does.", OpcodeTest::arithmeticWraps);
        Check.sentence("\"Depth\" means the operand stack depth; \"frames full\" means the frame stack holds FRAME_CAP frames.",
                OpcodeTest::fullAtEight);
        Check.sentence("**0 NOP**: nothing.", OpcodeTest::nop);
        Check.sentence("**1 PUSH k**: push k.", OpcodeTest::push);
        Check.sentence("**1 PUSH k**: push k. Depth 8: E_OVERFLOW.", () -> overflow(PUSH));
        Check.sentence("**2 POP**: pop.", OpcodeTest::pop);
        Check.sentence("**2 POP**: pop. Depth 0: E_UNDERFLOW.", () -> underflow(POP, 1));
        Check.sentence("**3 DUP**: push a copy of the top.", OpcodeTest::dup);
        Check.sentence("**3 DUP**: push a copy of the top. Depth 0: E_UNDERFLOW", () -> underflow(DUP, 1));
        Check.sentence("else depth 8: E_OVERFLOW.", () -> overflow(DUP));
        Check.sentence("**4 ADD**: pop b, pop a, push a+b.", OpcodeTest::add);
        Check.sentence("**4 ADD**: pop b, pop a, push a+b. Depth < 2: E_UNDERFLOW (nothing popped).", () -> underflow(ADD, 2));
        Check.sentence("**5 SUB**: pop b, pop a, push a-b.", OpcodeTest::sub);
        Check.sentence("**5 SUB**: pop b, pop a, push a-b. Depth < 2: E_UNDERFLOW (nothing popped).", () -> underflow(SUB, 2));
        Check.sentence("**6 JMP L**: `pc := L` (any int).", OpcodeTest::jmp);
        Check.sentence("**7 JZ L**: pop v; if v == 0 then `pc := L`.", OpcodeTest::jz);
        Check.sentence("**7 JZ L**: pop v; if v == 0 then `pc := L`. Depth 0: E_UNDERFLOW.", () -> underflow(JZ, 1));
        Check.sentence("**8 MYID**: push own id.", OpcodeTest::myId);
        Check.sentence("**8 MYID**: push own id. Depth 8: E_OVERFLOW.", () -> overflow(MYID));
        Check.sentence("**9 THROW**: pop v; raise v in self.", OpcodeTest::throwTop);
        Check.sentence("**9 THROW**: pop v; raise v in self. Depth 0: E_UNDERFLOW.", () -> underflow(THROW, 1));
        Check.sentence("**10 THROWTO u**: depth 0: E_UNDERFLOW.", OpcodeTest::throwToOfNothing);
        Check.sentence("if u is the own id, raise e in self", OpcodeTest::throwToSelf);
        Check.sentence("else if u is not in `[0,threadCount)`", OpcodeTest::throwToStrangers);
        Check.sentence("or thread u is not ALIVE, e is dropped", OpcodeTest::throwToFinished);
        Check.sentence("else e is appended to u's pending queue", OpcodeTest::throwToOther);
        Check.sentence("That queue is never full here, since that case is BLOCKED.", OpcodeTest::throwToFull);
        Check.sentence("**11 CATCH h**: push `(F_CATCH, h, mask)`.", OpcodeTest::catchFrames);
        Check.sentence("**11 CATCH h**: push `(F_CATCH, h, mask)`. Frames full: E_FRAMES.", () -> fullFrames(CATCH));
        Check.sentence("**12 MASK m**: m' is m clamped to [0,2].", OpcodeTest::maskClamps);
        Check.sentence("**12 MASK m**: m' is m clamped to [0,2]. Frames full: E_FRAMES.", () -> fullFrames(MASK));
        Check.sentence("Otherwise push `(F_MASK, m', mask)`, then `mask := m'`.", OpcodeTest::masksNest);
        Check.sentence("**13 END**: frames empty: E_FRAMES.", OpcodeTest::endOfNothing);
        Check.sentence("Otherwise pop the top frame and set `mask :=` its saved.", OpcodeTest::endOfFrames);
        Check.sentence("If it is F_BRACKET (arg r): `holder[r] := -1`, `releases[r] += 1`.", OpcodeTest::endOfBrackets);
        Check.sentence("**14 BRACKET r**: r not in 0..7: E_BADRES.", OpcodeTest::wrongResources);
        Check.sentence("Else frames full: E_FRAMES.", OpcodeTest::fullFramesAtBracket);
        Check.sentence("Otherwise `holder[r] := self`, `acquires[r] += 1`, push `(F_BRACKET, r, mask)`. The mask is unchanged.",
                OpcodeTest::brackets);
        Check.sentence("A held r never reaches here, since that case is BLOCKED.", OpcodeTest::heldBracket);
        Check.sentence("**15 HALT**: pop every frame, top first.", OpcodeTest::haltPopsEveryFrame);
        Check.sentence("each F_BRACKET (arg r) gives `holder[r] := -1`, `releases[r] += 1`", OpcodeTest::haltReleases);
        Check.sentence("Then `state := DONE`, and the operand stack and pending queue are emptied.", OpcodeTest::haltEmpties);
        Check.end();
    }

    private static void binary(int op, int a, int b, int want) {
        Probe p = new Probe(a + " and " + b + " by " + op, PUSH, 44, PUSH, a, PUSH, b, op, 0);
        p.spawn(0).run(0, 4).stack(0, 44, want).alive(0, 4, UNMASKED);
    }

    private static void arithmeticWraps() {
        binary(ADD, MAX, 1, MIN);
        binary(ADD, MIN, -1, MAX);
        binary(ADD, MAX, MAX, -2);
        binary(ADD, MIN, MIN, 0);
        binary(SUB, MIN, 1, MAX);
        binary(SUB, MAX, -1, MIN);
        binary(SUB, 0, MIN, MIN);
        binary(SUB, MAX, MIN, -1);
        binary(SUB, MIN, MAX, 1);
    }

    private static void fullAtEight() {
        Probe operands = new Probe("operands").repeat(9, PUSH, 1);
        operands.spawn(0);
        for (int depth = 1; depth <= 8; depth++) {
            operands.run(0, 1).alive(0, depth, UNMASKED).depths(0, depth, 0, 0);
        }
        operands.run(0, 1).died(0, 9, UNMASKED, E_OVERFLOW);
        Probe frames = new Probe("frames").repeat(9, CATCH, 40);
        frames.spawn(0);
        for (int depth = 1; depth <= 8; depth++) {
            frames.run(0, 1).alive(0, depth, UNMASKED).depths(0, 0, depth, 0);
        }
        frames.run(0, 1).alive(0, 40, UNMASKED).stack(0, E_FRAMES).depths(0, 1, 7, 0);
        Probe four = new Probe("four threads, all full").repeat(8, MYID, 0).repeat(8, MASK, 1).spawn(0, 0, 0, 0);
        for (int t = 0; t < 4; t++) {
            four.run(t, 16);
        }
        for (int t = 0; t < 4; t++) {
            four.alive(t, 16, MASKED).stack(t, t, t, t, t, t, t, t, t);
            four.frames(t, F_MASK, 1, 0, F_MASK, 1, 1, F_MASK, 1, 1, F_MASK, 1, 1, F_MASK, 1, 1, F_MASK, 1, 1, F_MASK, 1, 1,
                    F_MASK, 1, 1);
        }
    }

    // The depth just below the needed one is the greatest that fails; the needed one does not.
    private static void underflow(int op, int needed) {
        for (int depth = 0; depth < needed; depth++) {
            Probe p = new Probe("op " + op + " at depth " + depth, NOP, 0).repeat(depth, PUSH, 3).code(op, 50);
            p.spawn(0).run(0, depth + 2).died(0, depth + 2, UNMASKED, E_UNDERFLOW);
            Probe caught = new Probe("caught, op " + op + " at depth " + depth, CATCH, 40).repeat(depth, PUSH, 3).code(op, 50);
            caught.spawn(0).run(0, depth + 2).alive(0, 40, UNMASKED).stack(0, E_UNDERFLOW).frames(0);
        }
        Probe enough = new Probe("op " + op + " at depth " + needed, CATCH, 40).repeat(needed, PUSH, 3).code(op, 50);
        enough.spawn(0).run(0, needed + 2);
        Check.due("op " + op + " raised underflow", enough.vm.getStack(0, 0) == E_UNDERFLOW, false);
    }

    private static void overflow(int op) {
        Probe p = new Probe("op " + op).repeat(7, PUSH, 6).code(op, 6, op, 6);
        p.spawn(0).run(0, 8).alive(0, 8, UNMASKED).field(0, 4, 8).run(0, 1).died(0, 9, UNMASKED, E_OVERFLOW);
        Probe caught = new Probe("caught, op " + op, CATCH, 40).repeat(8, PUSH, 6).code(op, 6);
        caught.spawn(0).run(0, 10).alive(0, 40, UNMASKED).stack(0, E_OVERFLOW).frames(0);
    }

    private static void nop() {
        for (int arg : WIDE) {
            Probe empty = new Probe("nothing there", NOP, arg);
            empty.spawn(0).run(0, 1).alive(0, 1, UNMASKED).empty(0).everyResource(-1, 0, 0);
            Probe full = new Probe("full stacks").repeat(8, PUSH, 6).repeat(8, MASK, 1).code(NOP, arg);
            full.spawn(0).run(0, 17).alive(0, 17, MASKED).depths(0, 8, 8, 0).stack(0, 6, 6, 6, 6, 6, 6, 6, 6);
        }
    }

    private static void push() {
        for (int k : WIDE) {
            Probe p = new Probe("push " + k, PUSH, k, PUSH, 5);
            p.spawn(0).run(0, 1).alive(0, 1, UNMASKED).stack(0, k).run(0, 1).stack(0, k, 5);
        }
    }

    private static void pop() {
        Probe p = new Probe("eight to none", PUSH, 1, PUSH, 2, PUSH, 3, PUSH, 4, PUSH, 5, PUSH, 6, PUSH, 7, PUSH, 8);
        p.repeat(8, POP, 9).spawn(0).run(0, 9).stack(0, 1, 2, 3, 4, 5, 6, 7);
        p.run(0, 6).stack(0, 1).run(0, 1).alive(0, 16, UNMASKED).stack(0);
    }

    private static void dup() {
        Probe p = new Probe("dup", PUSH, 5, DUP, 9, PUSH, MIN, DUP, 9);
        p.spawn(0, 0, 0, 2).run(0, 2).alive(0, 2, UNMASKED).stack(0, 5, 5).run(0, 2).stack(0, 5, 5, MIN, MIN);
        p.run(3, 2).alive(3, 4, UNMASKED).stack(3, MIN, MIN);
    }

    private static void add() {
        binary(ADD, 5, 3, 8);
        binary(ADD, 0, -7, -7);
        Probe full = new Probe("full stack").repeat(8, PUSH, 6).code(ADD, 9);
        full.spawn(0).run(0, 9).alive(0, 9, UNMASKED).stack(0, 6, 6, 6, 6, 6, 6, 12);
        Probe two = new Probe("two operands", PUSH, 4, PUSH, 3, ADD, 9);
        two.spawn(0).run(0, 3).stack(0, 7);
    }

    private static void sub() {
        binary(SUB, 5, 3, 2);
        binary(SUB, 3, 5, -2);
        Probe full = new Probe("full stack").repeat(7, PUSH, 6).code(PUSH, 1, SUB, 9);
        full.spawn(0).run(0, 9).alive(0, 9, UNMASKED).stack(0, 6, 6, 6, 6, 6, 6, 5);
        Probe two = new Probe("two operands", PUSH, 4, PUSH, 3, SUB, 9);
        two.spawn(0).run(0, 3).stack(0, 1);
    }

    private static void jmp() {
        for (int target : WIDE) {
            Probe p = new Probe("jump to " + target, JMP, target);
            p.spawn(0).run(0, 1).alive(0, target, UNMASKED).empty(0);
        }
    }

    private static void jz() {
        for (int target : WIDE) {
            for (int v : WIDE) {
                Probe p = new Probe("jump to " + target + " at " + v, PUSH, 9, PUSH, v, JZ, target);
                p.spawn(0).run(0, 3).alive(0, v == 0 ? target : 3, UNMASKED).stack(0, 9);
            }
        }
    }

    private static void myId() {
        Probe p = new Probe("ids", MYID, 9, MYID, 9);
        p.spawn(0, 0, 0, 0);
        for (int t = 0; t < 4; t++) {
            p.run(t, 2).alive(t, 2, UNMASKED).stack(t, t, t);
        }
    }

    private static void throwTop() {
        Probe p = new Probe("throw", PUSH, 5, PUSH, MIN, THROW, 3);
        p.spawn(0).run(0, 3).died(0, 3, UNMASKED, MIN);
        Probe zero = new Probe("throw of zero", CATCH, 9, MASK, 2, PUSH, 5, PUSH, 0, THROW, 3);
        zero.spawn(0).run(0, 5).alive(0, 9, UNMASKED).stack(0, 0).frames(0);
    }

    private static void throwToOfNothing() {
        for (int u : new int[] {MIN, -1, 0, 1, 2, 3, 4, MAX}) {
            Probe p = new Probe("to " + u, THROWTO, u);
            p.spawn(0, 0, 0).throwTo(1, 1, 2, 3, 4).run(0, 1).died(0, 1, UNMASKED, E_UNDERFLOW);
            p.pending(1, 1, 2, 3, 4).pending(2);
        }
        Probe one = new Probe("depth 1", PUSH, 0, THROWTO, 1);
        one.spawn(0, 0).run(0, 2).alive(0, 2, UNMASKED).empty(0).pending(1, 0);
    }

    // A throw to oneself is raised at once, whatever the mask, and does not pass through the queue.
    private static void throwToSelf() {
        for (int t = 0; t < 4; t++) {
            for (int m = 0; m <= 2; m++) {
                Probe p = new Probe(t + " under mask " + m, CATCH, 20, MASK, m, PUSH, 1, PUSH, 8, THROWTO, t);
                p.spawn(0, 0, 0, 0).run(t, 5).alive(t, 20, UNMASKED).stack(t, 8).frames(t).pending(t);
            }
        }
    }

    private static void throwToStrangers() {
        for (int u : new int[] {MIN, -4, -1, 2, 3, 4, 8, MAX}) {
            Probe p = new Probe("to " + u, PUSH, 5, PUSH, 6, THROWTO, u);
            p.spawn(0, 0).run(0, 3).alive(0, 3, UNMASKED).stack(0, 5).pending(0).alive(1, 0, UNMASKED).empty(1);
            p.spawn(0, 0).pending(2).pending(3);
        }
    }

    private static void throwToFinished() {
        Probe p = new Probe("finished", PUSH, 5, THROWTO, 1, PUSH, 6, THROWTO, 2, HALT, 0, POP, 0);
        p.spawn(0, 4, 5).run(1, 1).run(2, 1);
        p.run(0, 4).alive(0, 4, UNMASKED).empty(0).done(1, 5, UNMASKED).died(2, 6, UNMASKED, E_UNDERFLOW);
    }

    private static void throwToOther() {
        Probe p = new Probe("to another", PUSH, 5, PUSH, 6, THROWTO, 2, THROWTO, 2, NOP, 0);
        p.spawn(0, 4, 4).run(0, 3).alive(0, 3, UNMASKED).stack(0, 5).pending(2, 6).alive(2, 4, UNMASKED);
        p.run(0, 1).alive(0, 4, UNMASKED).stack(0).pending(2, 6, 5).alive(2, 4, UNMASKED).pending(0).pending(1);
        Probe each = new Probe("to each", PUSH, 7, THROWTO, 0, PUSH, 8, THROWTO, 3);
        each.spawn(0, 0, 0, 0).run(1, 4).pending(0, 7).pending(1).pending(2).pending(3, 8);
    }

    private static void throwToFull() {
        Probe p = new Probe("to a queue that fills").repeat(6, PUSH, 6).repeat(6, THROWTO, 1);
        p.spawn(0, 0).run(0, 6);
        for (int count = 1; count <= 4; count++) {
            p.run(0, 1).depths(1, 0, 0, count);
        }
        p.stepChangesNothing(0, BLOCKED).stack(0, 6, 6).alive(0, 10, UNMASKED).pending(1, 6, 6, 6, 6);
    }

    private static void catchFrames() {
        for (int h : WIDE) {
            Probe p = new Probe("handler " + h, PUSH, 4, CATCH, h, MASK, 1, CATCH, h);
            p.spawn(0).run(0, 4).alive(0, 4, MASKED).stack(0, 4);
            p.frames(0, F_CATCH, h, UNMASKED, F_MASK, 1, UNMASKED, F_CATCH, h, MASKED);
        }
    }

    // The nearest catch stands third: two frames stay, and the mask is the one that it saved.
    private static void fullFrames(int op) {
        Probe p = new Probe("op " + op, CATCH, 20, MASK, 2, CATCH, 30).repeat(5, MASK, 1).code(op, 0);
        p.spawn(0).run(0, 8).alive(0, 8, MASKED).field(0, 5, 8).run(0, 1);
        p.alive(0, 30, UNINTERRUPTIBLE).stack(0, E_FRAMES).frames(0, F_CATCH, 20, UNMASKED, F_MASK, 2, UNMASKED);
        Probe dying = new Probe("uncaught, op " + op).repeat(8, MASK, 2).code(op, 1);
        dying.spawn(0).run(0, 9).died(0, 9, UNMASKED, E_FRAMES);
        Probe room = new Probe("room for one, op " + op).repeat(7, MASK, 2).code(op, 0);
        room.spawn(0).run(0, 8).alive(0, 8, op == MASK ? UNMASKED : UNINTERRUPTIBLE).field(0, 5, 8);
    }

    private static void maskClamps() {
        for (int m : WIDE) {
            int clamped = m < 0 ? UNMASKED : m > 2 ? UNINTERRUPTIBLE : m;
            Probe p = new Probe("mask " + m, MASK, m, END, 0);
            p.spawn(0).run(0, 1).alive(0, 1, clamped).frames(0, F_MASK, clamped, UNMASKED);
            p.run(0, 1).alive(0, 2, UNMASKED).frames(0);
        }
    }

    private static void masksNest() {
        for (int outer = 0; outer <= 2; outer++) {
            for (int inner = 0; inner <= 2; inner++) {
                Probe p = new Probe(inner + " in " + outer, MASK, outer, MASK, inner);
                p.spawn(0).run(0, 2).alive(0, 2, inner).frames(0, F_MASK, outer, UNMASKED, F_MASK, inner, outer);
            }
        }
    }

    private static void endOfNothing() {
        Probe p = new Probe("end of nothing", END, 0);
        p.spawn(0).run(0, 1).died(0, 1, UNMASKED, E_FRAMES);
        Probe again = new Probe("one end too many", MASK, 1, END, 0, END, 0);
        again.spawn(0).run(0, 3).died(0, 3, UNMASKED, E_FRAMES);
        Probe caught = new Probe("the catch itself is ended", CATCH, 9, END, 0, END, 0);
        caught.spawn(0).run(0, 2).alive(0, 2, UNMASKED).run(0, 1).died(0, 3, UNMASKED, E_FRAMES);
    }

    private static void endOfFrames() {
        Probe p = new Probe("ends", PUSH, 4, MASK, 2, MASK, 1, CATCH, 9, MASK, 0).repeat(4, END, 5).spawn(0).run(0, 5);
        p.alive(0, 5, UNMASKED).frames(0, F_MASK, 2, 0, F_MASK, 1, 2, F_CATCH, 9, 1, F_MASK, 0, 1);
        p.run(0, 1).alive(0, 6, MASKED).frames(0, F_MASK, 2, 0, F_MASK, 1, 2, F_CATCH, 9, 1);
        p.run(0, 1).alive(0, 7, MASKED).frames(0, F_MASK, 2, 0, F_MASK, 1, 2);
        p.run(0, 1).alive(0, 8, UNINTERRUPTIBLE).frames(0, F_MASK, 2, 0);
        p.run(0, 1).alive(0, 9, UNMASKED).frames(0).stack(0, 4);
    }

    private static void endOfBrackets() {
        Probe p = new Probe("eight brackets").takeAll().repeat(8, END, 0).spawn(0).run(0, 8);
        for (int r = 7; r >= 0; r--) {
            p.resource(r, 0, 1, 0).run(0, 1).resource(r, -1, 1, 1).field(0, 5, r);
        }
        Probe other = new Probe("end of other frames", BRACKET, 1, MASK, 1, END, 0, CATCH, 1, END, 0);
        other.spawn(0).run(0, 5).resource(1, 0, 1, 0).frames(0, F_BRACKET, 1, UNMASKED);
    }

    private static void wrongResources() {
        for (int r : new int[] {MIN, -8, -1, 8, 9, 64, MAX}) {
            Probe p = new Probe("resource " + r, BRACKET, r, CATCH, 9, BRACKET, r);
            p.spawn(0, 1).run(0, 1).died(0, 1, UNMASKED, E_BADRES).everyResource(-1, 0, 0);
            p.run(1, 2).alive(1, 9, UNMASKED).stack(1, E_BADRES).frames(1).everyResource(-1, 0, 0);
        }
    }

    private static void fullFramesAtBracket() {
        Probe p = new Probe("right resource", CATCH, 40).repeat(7, MASK, 1).code(BRACKET, 2);
        p.spawn(0).run(0, 9).alive(0, 40, UNMASKED).stack(0, E_FRAMES).everyResource(-1, 0, 0);
        Probe wrong = new Probe("wrong resource").repeat(8, MASK, 0).code(BRACKET, 8);
        wrong.spawn(0).run(0, 9).died(0, 9, UNMASKED, E_BADRES);
        Probe room = new Probe("room for one").repeat(7, MASK, 1).code(BRACKET, 2);
        room.spawn(0).run(0, 8).alive(0, 8, MASKED).field(0, 5, 8).resource(2, 0, 1, 0);
    }

    private static void brackets() {
        for (int r = 0; r < 8; r++) {
            for (int m = 0; m <= 2; m++) {
                Probe p = new Probe("resource " + r + " under mask " + m, MASK, m, BRACKET, r, END, 0, BRACKET, r);
                p.spawn(0, 0).run(1, 2).alive(1, 2, m).frames(1, F_MASK, m, UNMASKED, F_BRACKET, r, m).resource(r, 1, 1, 0);
                p.resource((r + 1) % 8, -1, 0, 0).run(1, 2).resource(r, 1, 2, 1).alive(1, 4, m);
            }
        }
    }

    private static void heldBracket() {
        Probe p = new Probe("held", BRACKET, 0, END, 0, BRACKET, 0);
        p.spawn(0, 2).run(0, 1).stepChangesNothing(1, BLOCKED).resource(0, 0, 1, 0);
        p.run(0, 1).run(1, 1).resource(0, 1, 2, 1);
        Probe full = new Probe("held, full frames", BRACKET, 0).repeat(7, MASK, 0).code(BRACKET, 0);
        full.spawn(0).run(0, 8).field(0, 5, 8).stepChangesNothing(0, BLOCKED);
    }

    private static void haltPopsEveryFrame() {
        Probe none = new Probe("no frames", HALT, 9);
        none.spawn(0).run(0, 1).done(0, 1, UNMASKED);
        Probe eight = new Probe("eight frames").repeat(4, CATCH, 1).repeat(3, MASK, 1).code(MASK, 2, HALT, 9);
        eight.spawn(0).run(0, 8).alive(0, 8, UNINTERRUPTIBLE).field(0, 5, 8).run(0, 1).done(0, 9, UNMASKED);
    }

    private static void haltReleases() {
        Probe p = new Probe("eight brackets").takeAll().code(HALT, 0);
        p.spawn(0).run(0, 8).everyResource(0, 1, 0).run(0, 1).done(0, 9, UNMASKED).everyResource(-1, 1, 1);
        Probe two = new Probe("a bystander", BRACKET, 5, MASK, 1, BRACKET, 3, CATCH, 0, BRACKET, 4, HALT, 0);
        two.spawn(0, 1).run(0, 1).run(1, 5).done(1, 6, UNMASKED);
        two.resource(3, -1, 1, 1).resource(4, -1, 1, 1).resource(5, 0, 1, 0);
    }

    private static void haltEmpties() {
        Probe p = new Probe("all full").repeat(8, PUSH, 6).repeat(8, MASK, 2).code(HALT, 0);
        p.spawn(0, 0).run(1, 16).throwTo(1, 1, 2, 3, 4).depths(1, 8, 8, 4).run(1, 1).done(1, 17, UNMASKED);
        p.refusesThrowTo(1, 5).stepChangesNothing(1, NOSTEP).alive(0, 0, UNMASKED);
    }
}
