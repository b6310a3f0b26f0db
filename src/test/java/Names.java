// The names of the class without its own before them: a class without a package can't be imported.
abstract class Names {
    static final int ALIVE = AsyncMaskVm.ALIVE;
    static final int DONE = AsyncMaskVm.DONE;
    static final int DIED = AsyncMaskVm.DIED;
    static final int UNMASKED = AsyncMaskVm.UNMASKED;
    static final int MASKED = AsyncMaskVm.MASKED;
    static final int UNINTERRUPTIBLE = AsyncMaskVm.UNINTERRUPTIBLE;
    static final int F_CATCH = AsyncMaskVm.F_CATCH;
    static final int F_MASK = AsyncMaskVm.F_MASK;
    static final int F_BRACKET = AsyncMaskVm.F_BRACKET;
    static final int NOSTEP = AsyncMaskVm.NOSTEP;
    static final int EXECUTED = AsyncMaskVm.EXECUTED;
    static final int BLOCKED = AsyncMaskVm.BLOCKED;
    static final int DELIVERED = AsyncMaskVm.DELIVERED;
    static final int E_UNDERFLOW = AsyncMaskVm.E_UNDERFLOW;
    static final int E_OVERFLOW = AsyncMaskVm.E_OVERFLOW;
    static final int E_FRAMES = AsyncMaskVm.E_FRAMES;
    static final int E_BADRES = AsyncMaskVm.E_BADRES;
    static final int E_BADPC = AsyncMaskVm.E_BADPC;
    static final int NOP = AsyncMaskVm.NOP;
    static final int PUSH = AsyncMaskVm.PUSH;
    static final int POP = AsyncMaskVm.POP;
    static final int DUP = AsyncMaskVm.DUP;
    static final int ADD = AsyncMaskVm.ADD;
    static final int SUB = AsyncMaskVm.SUB;
    static final int JMP = AsyncMaskVm.JMP;
    static final int JZ = AsyncMaskVm.JZ;
    static final int MYID = AsyncMaskVm.MYID;
    static final int THROW = AsyncMaskVm.THROW;
    static final int THROWTO = AsyncMaskVm.THROWTO;
    static final int CATCH = AsyncMaskVm.CATCH;
    static final int MASK = AsyncMaskVm.MASK;
    static final int END = AsyncMaskVm.END;
    static final int BRACKET = AsyncMaskVm.BRACKET;
    static final int HALT = AsyncMaskVm.HALT;

    static final int MIN = Integer.MIN_VALUE;
    static final int MAX = Integer.MAX_VALUE;
}
