import java.util.ArrayDeque;
import java.util.ArrayList;
import java.util.List;

// The document read a second time, with the library's lists, so that long runs have something to be compared with.
final class Model {
    private record Cell(int op, int arg) {
    }

    private record Frame(int kind, int arg, int saved) {
    }

    private static final class Fiber {
        int state = 1;
        int pc;
        int mask = 0;
        int exit = 0;
        final List<Integer> stack = new ArrayList<>();
        final List<Frame> frames = new ArrayList<>();
        final ArrayDeque<Integer> pending = new ArrayDeque<>();

        int pop() {
            return stack.remove(stack.size() - 1);
        }
    }

    private final int threadCap;
    private final int codeCap;
    private final List<Cell> code = new ArrayList<>();
    private final List<Fiber> fibers = new ArrayList<>();
    private final int[] holder = {-1, -1, -1, -1, -1, -1, -1, -1};
    private final int[] acquires = new int[8];
    private final int[] releases = new int[8];

    Model(int threadCap, int codeCap) {
        this.threadCap = Math.max(2, Math.min(4, threadCap));
        this.codeCap = Math.max(8, Math.min(64, codeCap));
    }

    boolean load(int op, int arg) {
        return code.size() < codeCap && op >= 0 && op <= 15 && code.add(new Cell(op, arg));
    }

    int spawn(int pc) {
        if (fibers.size() == threadCap) {
            return -1;
        }
        Fiber fiber = new Fiber();
        fiber.pc = pc;
        fibers.add(fiber);
        return fibers.size() - 1;
    }

    boolean throwTo(int tid, int e) {
        return runs(tid) && fibers.get(tid).pending.size() < 4 && fibers.get(tid).pending.add(e);
    }

    int step(int tid) {
        if (!runs(tid)) {
            return 0;
        }
        Fiber f = fibers.get(tid);
        boolean stuck = stuck(tid);
        if (!f.pending.isEmpty() && (f.mask == 0 || f.mask == 1 && stuck)) {
            raise(f, f.pending.remove());
            return 3;
        }
        if (stuck) {
            return 2;
        }
        Cell cell = cellAt(f.pc);
        if (cell == null) {
            raise(f, -5);
            return 1;
        }
        f.pc++;
        Integer error = errorOf(f, cell);
        if (error != null) {
            raise(f, error);
        } else {
            perform(tid, f, cell);
        }
        return 1;
    }

    private boolean runs(int tid) {
        return tid >= 0 && tid < fibers.size() && fibers.get(tid).state == 1;
    }

    private Cell cellAt(int pc) {
        return pc >= 0 && pc < code.size() ? code.get(pc) : null;
    }

    private boolean stuck(int tid) {
        Fiber f = fibers.get(tid);
        Cell cell = cellAt(f.pc);
        if (f.state != 1 || cell == null) {
            return false;
        }
        if (cell.op == 14) {
            return cell.arg >= 0 && cell.arg <= 7 && holder[cell.arg] != -1;
        }
        return cell.op == 10 && !f.stack.isEmpty() && cell.arg != tid && runs(cell.arg)
                && fibers.get(cell.arg).pending.size() == 4;
    }

    private static Integer errorOf(Fiber f, Cell cell) {
        int depth = f.stack.size();
        boolean framesFull = f.frames.size() == 8;
        return switch (cell.op) {
            case 1, 8 -> depth == 8 ? -2 : null;
            case 2, 7, 9, 10 -> depth == 0 ? -1 : null;
            case 3 -> depth == 0 ? Integer.valueOf(-1) : depth == 8 ? Integer.valueOf(-2) : null;
            case 4, 5 -> depth < 2 ? -1 : null;
            case 11, 12 -> framesFull ? -3 : null;
            case 13 -> f.frames.isEmpty() ? -3 : null;
            case 14 -> cell.arg < 0 || cell.arg > 7 ? Integer.valueOf(-4) : framesFull ? Integer.valueOf(-3) : null;
            default -> null;
        };
    }

    private void perform(int tid, Fiber f, Cell cell) {
        switch (cell.op) {
            case 1 -> f.stack.add(cell.arg);
            case 2 -> f.pop();
            case 3 -> f.stack.add(f.stack.get(f.stack.size() - 1));
            case 4 -> f.stack.add(f.pop() + f.pop());
            case 5 -> f.stack.add(-f.pop() + f.pop());
            case 6 -> f.pc = cell.arg;
            case 7 -> f.pc = f.pop() == 0 ? cell.arg : f.pc;
            case 8 -> f.stack.add(tid);
            case 9 -> raise(f, f.pop());
            case 10 -> send(tid, f, cell.arg);
            case 11 -> f.frames.add(new Frame(1, cell.arg, f.mask));
            case 12 -> {
                int m = Math.max(0, Math.min(2, cell.arg));
                f.frames.add(new Frame(2, m, f.mask));
                f.mask = m;
            }
            case 13 -> unwindOne(f);
            case 14 -> {
                holder[cell.arg] = tid;
                acquires[cell.arg]++;
                f.frames.add(new Frame(3, cell.arg, f.mask));
            }
            case 15 -> {
                while (!f.frames.isEmpty()) {
                    unwindOne(f);
                }
                f.state = 2;
                f.stack.clear();
                f.pending.clear();
            }
            default -> {
            }
        }
    }

    private void send(int tid, Fiber f, int u) {
        int e = f.pop();
        if (u == tid) {
            raise(f, e);
        } else if (runs(u)) {
            fibers.get(u).pending.add(e);
        }
    }

    private Frame unwindOne(Fiber f) {
        Frame frame = f.frames.remove(f.frames.size() - 1);
        f.mask = frame.saved;
        if (frame.kind == 3) {
            holder[frame.arg] = -1;
            releases[frame.arg]++;
        }
        return frame;
    }

    private void raise(Fiber f, int e) {
        f.stack.clear();
        while (!f.frames.isEmpty()) {
            Frame frame = unwindOne(f);
            if (frame.kind == 1) {
                f.stack.add(e);
                f.pc = frame.arg;
                return;
            }
        }
        f.state = 3;
        f.exit = e;
        f.pending.clear();
    }

    // In the form of Snapshot.of.
    String snapshot() {
        StringBuilder text = new StringBuilder("code[");
        for (Cell cell : code) {
            text.append(' ').append(cell.op).append(':').append(cell.arg);
        }
        text.append(" ] threads[");
        for (int tid = 0; tid < fibers.size(); tid++) {
            text.append(' ').append(snapshot(tid));
        }
        text.append(" ] resources[");
        for (int r = 0; r < 8; r++) {
            text.append(' ').append(holder[r]).append(':').append(acquires[r]).append(':').append(releases[r]);
        }
        return text.append(" ]").toString();
    }

    private String snapshot(int tid) {
        Fiber f = fibers.get(tid);
        StringBuilder text = new StringBuilder("t" + tid + "{");
        int[] fields = {f.state, f.pc, f.mask, f.exit, f.stack.size(), f.frames.size(), f.pending.size(), stuck(tid) ? 1 : 0};
        for (int field : fields) {
            text.append(field).append(' ');
        }
        text.append("stack");
        f.stack.forEach(value -> text.append(' ').append(value));
        text.append(" frames");
        f.frames.forEach(frame -> text.append(' ').append(frame.kind + ":" + frame.arg + ":" + frame.saved));
        text.append(" pending");
        f.pending.forEach(value -> text.append(' ').append(value));
        return text.append('}').toString();
    }
}
