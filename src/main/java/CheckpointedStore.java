public final class CheckpointedStore {
    private static final int NODES = 16;
    private static final int SLOTS = 4;
    private static final int CELLS = NODES * SLOTS;
    private static final int MOST_STEPS = 16;

    private static final int DONE = 0;
    private static final int REFUSED = -1;
    private static final int HOLDS_NUMBER = -2;

    // A cell is one slot of one node. In the key arrays, 0 says that the cell holds a number and
    // n + 1 that it holds a key to node n, so that new arrays are the fresh store without any filling.
    private static final int NO_KEY = 0;

    // A cell that holds a key has 0 in its number array, so number() needs no look at the key.
    private final int[] presentNumbers = new int[CELLS];
    private final int[] presentKeys = new int[CELLS];
    private final int[] openNumbers = new int[CELLS];
    private final int[] openKeys = new int[CELLS];
    private final int[] settledNumbers = new int[CELLS];
    private final int[] settledKeys = new int[CELLS];
    private boolean snapshotOpen = false;

    public CheckpointedStore() {
    }

    public int write(int node, int slot, int value) {
        if (!isCell(node, slot)) {
            return REFUSED;
        }
        int cell = cellOf(node, slot);
        putNumber(cell, value);
        return DONE;
    }

    public int writeKey(int node, int slot, int target) {
        if (!isCell(node, slot) || !isNode(target)) {
            return REFUSED;
        }
        int cell = cellOf(node, slot);
        presentNumbers[cell] = 0;
        presentKeys[cell] = target + 1;
        return DONE;
    }

    public int copy(int node, int slot, int to, int toSlot) {
        if (!isCell(node, slot) || !isCell(to, toSlot)) {
            return REFUSED;
        }
        int from = cellOf(node, slot);
        int into = cellOf(to, toSlot);
        presentNumbers[into] = presentNumbers[from];
        presentKeys[into] = presentKeys[from];
        return DONE;
    }

    public int rescind(int node) {
        if (!isNode(node)) {
            return REFUSED;
        }
        for (int cell = 0; cell < CELLS; cell++) {
            boolean ownSlot = cell / SLOTS == node;
            boolean keyToNode = presentKeys[cell] == node + 1;
            if (ownSlot || keyToNode) {
                putNumber(cell, 0);
            }
        }
        return DONE;
    }

    public int key(int node, int slot) {
        if (!isCell(node, slot)) {
            return REFUSED;
        }
        return targetOf(node, slot);
    }

    public int number(int node, int slot) {
        if (!isCell(node, slot)) {
            return 0;
        }
        int cell = cellOf(node, slot);
        return presentNumbers[cell];
    }

    public int follow(int node, int slot, int steps) {
        if (!isCell(node, slot)) {
            return REFUSED;
        }
        int reached = node;
        for (int step = 0; step < MOST_STEPS && step < steps; step++) {
            reached = targetOf(reached, slot);
            if (reached == HOLDS_NUMBER) {
                return HOLDS_NUMBER;
            }
        }
        return reached;
    }

    public int snapshot() {
        if (snapshotOpen) {
            return REFUSED;
        }
        copyCells(presentNumbers, openNumbers);
        copyCells(presentKeys, openKeys);
        snapshotOpen = true;
        return DONE;
    }

    public int settle() {
        if (!snapshotOpen) {
            return REFUSED;
        }
        copyCells(openNumbers, settledNumbers);
        copyCells(openKeys, settledKeys);
        snapshotOpen = false;
        return DONE;
    }

    public void crash() {
        copyCells(settledNumbers, presentNumbers);
        copyCells(settledKeys, presentKeys);
        snapshotOpen = false;
    }

    public void idle(int turns) {
        // Every other call finishes its work at once, so none is left over for idle time.
    }

    public int keysTo(int node) {
        if (!isNode(node)) {
            return REFUSED;
        }
        int count = 0;
        for (int cell = 0; cell < CELLS; cell++) {
            if (presentKeys[cell] == node + 1) {
                count++;
            }
        }
        return count;
    }

    private static boolean isNode(int node) {
        return node >= 0 && node < NODES;
    }

    private static boolean isCell(int node, int slot) {
        return isNode(node) && slot >= 0 && slot < SLOTS;
    }

    private static int cellOf(int node, int slot) {
        return node * SLOTS + slot;
    }

    private int targetOf(int node, int slot) {
        int cell = cellOf(node, slot);
        if (presentKeys[cell] == NO_KEY) {
            return HOLDS_NUMBER;
        }
        return presentKeys[cell] - 1;
    }

    private void putNumber(int cell, int value) {
        presentNumbers[cell] = value;
        presentKeys[cell] = NO_KEY;
    }

    private static void copyCells(int[] from, int[] into) {
        for (int cell = 0; cell < CELLS; cell++) {
            into[cell] = from[cell];
        }
    }
}
