// 'A property of resources', to be looked at after any call.
final class ResourceProperty {
    private ResourceProperty() {
    }

    static void look(String name, AsyncMaskVm vm) {
        for (int r = 0; r < AsyncMaskVm.RESOURCES; r++) {
            int holder = vm.getResource(r, 0);
            int open = vm.getResource(r, 1) - vm.getResource(r, 2);
            Check.due(name + ": unmatched acquires of " + r, open, holder >= 0 ? 1 : 0);
            for (int tid = 0; tid < vm.getThreadCount(); tid++) {
                Check.due(name + ": brackets of " + r + " in " + tid, bracketsOf(vm, tid, r), tid == holder ? 1 : 0);
            }
            if (holder != -1) {
                Check.due(name + ": state of the holder of " + r, vm.getThread(holder, 0), AsyncMaskVm.ALIVE);
            }
        }
    }

    private static int bracketsOf(AsyncMaskVm vm, int tid, int r) {
        int count = 0;
        for (int i = 0; i < vm.getThread(tid, 5); i++) {
            boolean bracket = vm.getFrame(tid, i, 0) == AsyncMaskVm.F_BRACKET;
            count += bracket && vm.getFrame(tid, i, 1) == r ? 1 : 0;
        }
        return count;
    }
}
