public final class AsyncMaskVm {
    public static final int STACK_CAP = 8;
    public static final int FRAME_CAP = 8;
    public static final int QUEUE_CAP = 4;
    public static final int RESOURCES = 8;
    public static final int ALIVE = 1;
    public static final int DONE = 2;
    public static final int DIED = 3;
    public static final int UNMASKED = 0;
    public static final int MASKED = 1;
    public static final int UNINTERRUPTIBLE = 2;
    public static final int F_CATCH = 1;
    public static final int F_MASK = 2;
    public static final int F_BRACKET = 3;
    public static final int NOSTEP = 0;
    public static final int EXECUTED = 1;
    public static final int BLOCKED = 2;
    public static final int DELIVERED = 3;
    public static final int E_UNDERFLOW = -1;
    public static final int E_OVERFLOW = -2;
    public static final int E_FRAMES = -3;
    public static final int E_BADRES = -4;
    public static final int E_BADPC = -5;
    public static final int NOP = 0;
    public static final int PUSH = 1;
    public static final int POP = 2;
    public static final int DUP = 3;
    public static final int ADD = 4;
    public static final int SUB = 5;
    public static final int JMP = 6;
    public static final int JZ = 7;
    public static final int MYID = 8;
    public static final int THROW = 9;
    public static final int THROWTO = 10;
    public static final int CATCH = 11;
    public static final int MASK = 12;
    public static final int END = 13;
    public static final int BRACKET = 14;
    public static final int HALT = 15;

    private static final int MIN_THREADS = 2;
    private static final int MAX_THREADS = 4;
    private static final int MIN_CODE = 8;
    private static final int MAX_CODE = 64;
    private static final int FREE = -1;

    // Thread t's part of each of these begins at t times the capacity of one thread.
    private static final int STACK_CELLS = MAX_THREADS * STACK_CAP;
    private static final int FRAME_CELLS = MAX_THREADS * FRAME_CAP;
    private static final int QUEUE_CELLS = MAX_THREADS * QUEUE_CAP;

    private final int threadCap;
    private final int codeCap;

    private int codeSize = 0;
    private final int[] codeOp = new int[MAX_CODE];
    private final int[] codeArg = new int[MAX_CODE];

    private int threadCount = 0;
    private final int[] state = new int[MAX_THREADS];
    private final int[] pc = new int[MAX_THREADS];
    private final int[] mask = new int[MAX_THREADS];
    private final int[] exit = new int[MAX_THREADS];
    private final int[] stackDepth = new int[MAX_THREADS];
    private final int[] frameDepth = new int[MAX_THREADS];
    private final int[] pendingCount = new int[MAX_THREADS];

    private final int[] stack = new int[STACK_CELLS];
    private final int[] frameKind = new int[FRAME_CELLS];
    private final int[] frameArg = new int[FRAME_CELLS];
    private final int[] frameSaved = new int[FRAME_CELLS];
    private final int[] pending = new int[QUEUE_CELLS];

    private final int[] holder = new int[RESOURCES];
    private final int[] acquires = new int[RESOURCES];
    private final int[] releases = new int[RESOURCES];

    public AsyncMaskVm(int threadCap, int codeCap) {
        this.threadCap = clamp(threadCap, MIN_THREADS, MAX_THREADS);
        this.codeCap = clamp(codeCap, MIN_CODE, MAX_CODE);
        for (int r = 0; r < RESOURCES; r++) {
            holder[r] = FREE;
        }
    }

    public boolean load(int op, int arg) {
        if (codeSize == codeCap) {
            return false;
        }
        if (op < NOP || op > HALT) {
            return false;
        }
        codeOp[codeSize] = op;
        codeArg[codeSize] = arg;
        codeSize += 1;
        return true;
    }

    public int spawn(int pc) {
        if (threadCount == threadCap) {
            return -1;
        }
        // A slot is never used twice, so all else in it is still zero: unmasked and empty.
        int id = threadCount;
        this.state[id] = ALIVE;
        this.pc[id] = pc;
        threadCount += 1;
        return id;
    }

    public int step(int tid) {
        if (!isAlive(tid)) {
            return NOSTEP;
        }
        boolean blocked = isBlocked(tid);
        if (isDeliveryDue(tid, blocked)) {
            int e = removeOldestPending(tid);
            raise(tid, e);
            return DELIVERED;
        }
        if (blocked) {
            return BLOCKED;
        }
        if (isCodeAddress(pc[tid])) {
            execute(tid);
        } else {
            raise(tid, E_BADPC);
        }
        return EXECUTED;
    }

    public boolean throwTo(int tid, int e) {
        return isAlive(tid) && appendPending(tid, e);
    }

    public int getThreadCount() {
        return threadCount;
    }

    public int getThread(int tid, int field) {
        if (!isThread(tid)) {
            return -1;
        }
        switch (field) {
            case 0:
                return state[tid];
            case 1:
                return pc[tid];
            case 2:
                return mask[tid];
            case 3:
                return exit[tid];
            case 4:
                return stackDepth[tid];
            case 5:
                return frameDepth[tid];
            case 6:
                return pendingCount[tid];
            case 7:
                return isBlocked(tid) ? 1 : 0;
            default:
                return -1;
        }
    }

    public int getStack(int tid, int i) {
        if (!isThread(tid) || i < 0 || i >= stackDepth[tid]) {
            return 0;
        }
        return stack[tid * STACK_CAP + i];
    }

    public int getFrame(int tid, int i, int field) {
        if (!isThread(tid) || i < 0 || i >= frameDepth[tid]) {
            return 0;
        }
        int at = tid * FRAME_CAP + i;
        switch (field) {
            case 0:
                return frameKind[at];
            case 1:
                return frameArg[at];
            case 2:
                return frameSaved[at];
            default:
                return 0;
        }
    }

    public int getPending(int tid, int i) {
        if (!isThread(tid) || i < 0 || i >= pendingCount[tid]) {
            return 0;
        }
        return pending[tid * QUEUE_CAP + i];
    }

    public int getResource(int r, int field) {
        if (!isResource(r)) {
            return -1;
        }
        switch (field) {
            case 0:
                return holder[r];
            case 1:
                return acquires[r];
            case 2:
                return releases[r];
            default:
                return -1;
        }
    }

    public int getCodeSize() {
        return codeSize;
    }

    public int getCode(int addr, int field) {
        if (!isCodeAddress(addr)) {
            return -1;
        }
        switch (field) {
            case 0:
                return codeOp[addr];
            case 1:
                return codeArg[addr];
            default:
                return -1;
        }
    }

    private static int clamp(int value, int least, int greatest) {
        if (value < least) {
            return least;
        }
        return value > greatest ? greatest : value;
    }

    private boolean isThread(int tid) {
        return tid >= 0 && tid < threadCount;
    }

    private boolean isAlive(int tid) {
        return isThread(tid) && state[tid] == ALIVE;
    }

    private boolean isResource(int r) {
        return r >= 0 && r < RESOURCES;
    }

    private boolean isCodeAddress(int addr) {
        return addr >= 0 && addr < codeSize;
    }

    private boolean isBlocked(int t) {
        if (state[t] != ALIVE || !isCodeAddress(pc[t])) {
            return false;
        }
        int arg = codeArg[pc[t]];
        switch (codeOp[pc[t]]) {
            case BRACKET:
                return isResource(arg) && holder[arg] != FREE;
            case THROWTO:
                return stackDepth[t] >= 1 && arg != t && isAlive(arg) && pendingCount[arg] == QUEUE_CAP;
            default:
                return false;
        }
    }

    private boolean isDeliveryDue(int t, boolean blocked) {
        if (pendingCount[t] == 0) {
            return false;
        }
        return mask[t] == UNMASKED || (mask[t] == MASKED && blocked);
    }

    private boolean appendPending(int t, int e) {
        if (pendingCount[t] == QUEUE_CAP) {
            return false;
        }
        pending[t * QUEUE_CAP + pendingCount[t]] = e;
        pendingCount[t] += 1;
        return true;
    }

    private int removeOldestPending(int t) {
        int first = t * QUEUE_CAP;
        int last = first + pendingCount[t] - 1;
        int oldest = pending[first];
        for (int at = first; at < last; at++) {
            pending[at] = pending[at + 1];
        }
        pendingCount[t] -= 1;
        return oldest;
    }

    private void raise(int t, int e) {
        for (int left = frameDepth[t]; left > 0; left--) {
            int at = popFrame(t);
            if (frameKind[at] == F_CATCH) {
                stack[t * STACK_CAP] = e;
                stackDepth[t] = 1;
                pc[t] = frameArg[at];
                return;
            }
        }
        finish(t, DIED, e);
    }

    // Answers where the popped frame lay: its cells stay readable until the next frame is pushed.
    private int popFrame(int t) {
        frameDepth[t] -= 1;
        int at = t * FRAME_CAP + frameDepth[t];
        mask[t] = frameSaved[at];
        if (frameKind[at] == F_BRACKET) {
            int r = frameArg[at];
            holder[r] = FREE;
            releases[r] += 1;
        }
        return at;
    }

    private void finish(int t, int endState, int exitValue) {
        state[t] = endState;
        exit[t] = exitValue;
        stackDepth[t] = 0;
        pendingCount[t] = 0;
    }

    private void execute(int t) {
        int op = codeOp[pc[t]];
        int arg = codeArg[pc[t]];
        pc[t] += 1;
        switch (op) {
            case PUSH:
                push(t, arg);
                break;
            case POP:
                discardTop(t);
                break;
            case DUP:
                duplicateTop(t);
                break;
            case ADD:
                addTopTwo(t);
                break;
            case SUB:
                subtractTopTwo(t);
                break;
            case JMP:
                pc[t] = arg;
                break;
            case JZ:
                jumpIfZero(t, arg);
                break;
            case MYID:
                push(t, t);
                break;
            case THROW:
                throwTop(t);
                break;
            case THROWTO:
                throwTopTo(t, arg);
                break;
            case CATCH:
                pushFrame(t, F_CATCH, arg);
                break;
            case MASK:
                enterMask(t, arg);
                break;
            case END:
                endFrame(t);
                break;
            case BRACKET:
                enterBracket(t, arg);
                break;
            case HALT:
                halt(t);
                break;
            default:
                break;
        }
    }

    private void push(int t, int value) {
        if (stackDepth[t] == STACK_CAP) {
            raise(t, E_OVERFLOW);
            return;
        }
        stack[t * STACK_CAP + stackDepth[t]] = value;
        stackDepth[t] += 1;
    }

    // Raises E_UNDERFLOW and answers false if thread t has fewer than count operands.
    private boolean requireOperands(int t, int count) {
        if (stackDepth[t] < count) {
            raise(t, E_UNDERFLOW);
            return false;
        }
        return true;
    }

    // Its callers have made sure that there is an operand.
    private int popTop(int t) {
        stackDepth[t] -= 1;
        return stack[t * STACK_CAP + stackDepth[t]];
    }

    private void discardTop(int t) {
        if (requireOperands(t, 1)) {
            stackDepth[t] -= 1;
        }
    }

    private void duplicateTop(int t) {
        if (requireOperands(t, 1)) {
            push(t, stack[t * STACK_CAP + stackDepth[t] - 1]);
        }
    }

    private void addTopTwo(int t) {
        if (requireOperands(t, 2)) {
            int b = popTop(t);
            int a = popTop(t);
            push(t, a + b);
        }
    }

    private void subtractTopTwo(int t) {
        if (requireOperands(t, 2)) {
            int b = popTop(t);
            int a = popTop(t);
            push(t, a - b);
        }
    }

    private void jumpIfZero(int t, int target) {
        if (requireOperands(t, 1)) {
            int v = popTop(t);
            if (v == 0) {
                pc[t] = target;
            }
        }
    }

    private void throwTop(int t) {
        if (requireOperands(t, 1)) {
            int v = popTop(t);
            raise(t, v);
        }
    }

    private void throwTopTo(int t, int u) {
        if (!requireOperands(t, 1)) {
            return;
        }
        int e = popTop(t);
        if (u == t) {
            raise(t, e);
        } else if (isAlive(u)) {
            // Never refused: a full queue at u would have blocked t before this step.
            appendPending(u, e);
        }
    }

    // Raises E_FRAMES and answers false if the frame stack is full.
    private boolean pushFrame(int t, int kind, int arg) {
        if (frameDepth[t] == FRAME_CAP) {
            raise(t, E_FRAMES);
            return false;
        }
        int at = t * FRAME_CAP + frameDepth[t];
        frameKind[at] = kind;
        frameArg[at] = arg;
        frameSaved[at] = mask[t];
        frameDepth[t] += 1;
        return true;
    }

    private void enterMask(int t, int m) {
        int newMask = clamp(m, UNMASKED, UNINTERRUPTIBLE);
        if (pushFrame(t, F_MASK, newMask)) {
            mask[t] = newMask;
        }
    }

    private void enterBracket(int t, int r) {
        if (!isResource(r)) {
            raise(t, E_BADRES);
            return;
        }
        if (pushFrame(t, F_BRACKET, r)) {
            holder[r] = t;
            acquires[r] += 1;
        }
    }

    private void endFrame(int t) {
        if (frameDepth[t] == 0) {
            raise(t, E_FRAMES);
            return;
        }
        popFrame(t);
    }

    private void halt(int t) {
        for (int left = frameDepth[t]; left > 0; left--) {
            popFrame(t);
        }
        finish(t, DONE, 0);
    }
}
