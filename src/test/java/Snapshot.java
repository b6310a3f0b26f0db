// Everything that the readers of a machine can tell, as one line, so that "changes nothing" can be compared.
final class Snapshot {
    private Snapshot() {
    }

    static String of(AsyncMaskVm vm) {
        return code(vm) + " " + threads(vm) + " " + resources(vm);
    }

    static String code(AsyncMaskVm vm) {
        StringBuilder text = new StringBuilder("code[");
        for (int addr = 0; addr < vm.getCodeSize(); addr++) {
            text.append(' ').append(vm.getCode(addr, 0)).append(':').append(vm.getCode(addr, 1));
        }
        return text.append(" ]").toString();
    }

    static String threads(AsyncMaskVm vm) {
        StringBuilder text = new StringBuilder("threads[");
        for (int tid = 0; tid < vm.getThreadCount(); tid++) {
            text.append(' ').append(thread(vm, tid));
        }
        return text.append(" ]").toString();
    }

    static String thread(AsyncMaskVm vm, int tid) {
        StringBuilder text = new StringBuilder("t" + tid + "{");
        for (int field = 0; field <= 7; field++) {
            text.append(vm.getThread(tid, field)).append(' ');
        }
        text.append("stack");
        for (int i = 0; i < vm.getThread(tid, 4); i++) {
            text.append(' ').append(vm.getStack(tid, i));
        }
        text.append(" frames");
        for (int i = 0; i < vm.getThread(tid, 5); i++) {
            text.append(' ').append(vm.getFrame(tid, i, 0)).append(':').append(vm.getFrame(tid, i, 1));
            text.append(':').append(vm.getFrame(tid, i, 2));
        }
        text.append(" pending");
        for (int i = 0; i < vm.getThread(tid, 6); i++) {
            text.append(' ').append(vm.getPending(tid, i));
        }
        return text.append('}').toString();
    }

    static String resources(AsyncMaskVm vm) {
        StringBuilder text = new StringBuilder("resources[");
        for (int r = 0; r < AsyncMaskVm.RESOURCES; r++) {
            text.append(' ').append(vm.getResource(r, 0)).append(':').append(vm.getResource(r, 1));
            text.append(':').append(vm.getResource(r, 2));
        }
        return text.append(" ]").toString();
    }
}
