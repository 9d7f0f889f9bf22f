/** Each promise by itself: ordinary inputs, the edges that the document names, and wrong inputs. */
public final class PromisesTest {
    private static final int[] NO_NODES = {-1, 16, -16, 17, 64, Integer.MIN_VALUE, Integer.MAX_VALUE};
    private static final int[] NO_SLOTS = {-1, 4, -4, 5, 16, Integer.MIN_VALUE, Integer.MAX_VALUE};

    private static int wrong = 0;

    public static void main(String[] args) {
        newObjectIsFresh();
        newObjectHasFreshSettledStore();
        objectsShareNothing();
        writeHoldsNumber();
        writeReplacesKey();
        writeRefuses();
        writeKeyHoldsKey();
        writeKeyReplacesNumber();
        writeKeyRefuses();
        copyTakesNumberOrKey();
        copyOntoItself();
        copyIsNoLink();
        copyRefuses();
        rescindClearsNodeAndKeysToIt();
        rescindLeavesTheRest();
        rescindLeavesOtherStores();
        rescindRefuses();
        keyAnswers();
        numberAnswers();
        followGoesByTheSameSlot();
        followClampsSteps();
        followStopsAtNumber();
        followRefuses();
        snapshotIsACopy();
        snapshotRefusedWhileOneIsOpen();
        settleTakesTheSnapshot();
        settleRefusedWithoutSnapshot();
        crashGoesBackToSettled();
        crashLosesOpenSnapshot();
        crashLeavesSettledStore();
        idleChangesNothing();
        keysToCounts();
        keysToRefuses();
        System.out.println(wrong == 0 ? "all answers are as due" : wrong + " answers are not as due");
        if (wrong != 0) {
            System.exit(1);
        }
    }

    private static void due(String call, int got, int want) {
        if (got != want) {
            wrong++;
            String test = StackWalker.getInstance()
                .walk(frames -> frames.skip(1).filter(f -> !f.getMethodName().startsWith("due")).findFirst().get())
                .getMethodName();
            System.out.println(test + ": " + call + " answered " + got + ", due is " + want);
        }
    }

    private static void dueNumber(CheckpointedStore x, int node, int slot, int value) {
        due("number(" + node + ", " + slot + ")", x.number(node, slot), value);
        due("key(" + node + ", " + slot + ")", x.key(node, slot), -2);
    }

    private static void dueKey(CheckpointedStore x, int node, int slot, int target) {
        due("key(" + node + ", " + slot + ")", x.key(node, slot), target);
        due("number(" + node + ", " + slot + ")", x.number(node, slot), 0);
    }

    private static void dueFresh(CheckpointedStore x) {
        for (int node = 0; node < 16; node++) {
            for (int slot = 0; slot < 4; slot++) {
                dueNumber(x, node, slot, 0);
            }
        }
    }

    /** Cell by cell another content: numbers in the slots 0 and 1, keys in 2 and 3. */
    private static CheckpointedStore filled() {
        CheckpointedStore x = new CheckpointedStore();
        for (int node = 0; node < 16; node++) {
            x.write(node, 0, 100 + node);
            x.write(node, 1, -100 - node);
            x.writeKey(node, 2, (node + 1) % 16);
            x.writeKey(node, 3, 15 - node);
        }
        return x;
    }

    private static void dueFilled(CheckpointedStore x) {
        for (int node = 0; node < 16; node++) {
            dueNumber(x, node, 0, 100 + node);
            dueNumber(x, node, 1, -100 - node);
            dueKey(x, node, 2, (node + 1) % 16);
            dueKey(x, node, 3, 15 - node);
        }
    }

    // Promise 1

    private static void newObjectIsFresh() {
        CheckpointedStore x = new CheckpointedStore();
        dueFresh(x);
        for (int node = 0; node < 16; node++) {
            due("keysTo(" + node + ")", x.keysTo(node), 0);
        }
        due("settle()", x.settle(), -1);
        due("snapshot()", x.snapshot(), 0);
    }

    private static void newObjectHasFreshSettledStore() {
        CheckpointedStore x = filled();
        x.crash();
        dueFresh(x);
    }

    private static void objectsShareNothing() {
        CheckpointedStore x = filled();
        x.snapshot();
        x.settle();
        x.snapshot();
        CheckpointedStore y = new CheckpointedStore();
        dueFresh(y);
        due("settle()", y.settle(), -1);
        y.crash();
        dueFresh(y);
        due("settle()", x.settle(), 0);
        x.crash();
        dueFilled(x);
    }

    // Promise 2

    private static void writeHoldsNumber() {
        int[] values = {1, -1, -2, 15, 16, 17, Integer.MAX_VALUE, Integer.MIN_VALUE, 0};
        CheckpointedStore x = new CheckpointedStore();
        for (int value : values) {
            due("write(15, 3, " + value + ")", x.write(15, 3, value), 0);
            dueNumber(x, 15, 3, value);
            due("write(0, 0, " + value + ")", x.write(0, 0, value), 0);
            dueNumber(x, 0, 0, value);
        }
        dueFresh(x);
        CheckpointedStore y = new CheckpointedStore();
        due("write(4, 1, 9)", y.write(4, 1, 9), 0);
        dueNumber(y, 4, 1, 9);
        y.write(4, 1, 0);
        dueFresh(y);
    }

    private static void writeReplacesKey() {
        CheckpointedStore x = new CheckpointedStore();
        x.writeKey(2, 1, 0);
        due("write(2, 1, 8)", x.write(2, 1, 8), 0);
        dueNumber(x, 2, 1, 8);
        x.writeKey(2, 1, 5);
        due("write(2, 1, 0)", x.write(2, 1, 0), 0);
        dueNumber(x, 2, 1, 0);
    }

    private static void writeRefuses() {
        CheckpointedStore x = filled();
        for (int node : NO_NODES) {
            due("write(" + node + ", 0, 7)", x.write(node, 0, 7), -1);
        }
        for (int slot : NO_SLOTS) {
            due("write(3, " + slot + ", 7)", x.write(3, slot, 7), -1);
        }
        dueFilled(x);
    }

    // Promise 3

    private static void writeKeyHoldsKey() {
        CheckpointedStore x = new CheckpointedStore();
        for (int target = 0; target < 16; target++) {
            due("writeKey(6, 2, " + target + ")", x.writeKey(6, 2, target), 0);
            dueKey(x, 6, 2, target);
        }
        x.write(6, 2, 0);
        dueFresh(x);
        dueFilled(filled());
    }

    private static void writeKeyReplacesNumber() {
        CheckpointedStore x = new CheckpointedStore();
        x.write(0, 0, 77);
        due("writeKey(0, 0, 0)", x.writeKey(0, 0, 0), 0);
        dueKey(x, 0, 0, 0);
    }

    private static void writeKeyRefuses() {
        CheckpointedStore x = filled();
        for (int node : NO_NODES) {
            due("writeKey(" + node + ", 0, 7)", x.writeKey(node, 0, 7), -1);
            due("writeKey(3, 0, " + node + ")", x.writeKey(3, 0, node), -1);
            due("writeKey(3, 2, " + node + ")", x.writeKey(3, 2, node), -1);
        }
        for (int slot : NO_SLOTS) {
            due("writeKey(3, " + slot + ", 7)", x.writeKey(3, slot, 7), -1);
        }
        dueFilled(x);
    }

    // Promise 4

    private static void copyTakesNumberOrKey() {
        CheckpointedStore x = new CheckpointedStore();
        x.write(1, 0, 42);
        x.writeKey(1, 1, 9);
        due("copy(1, 0, 15, 3)", x.copy(1, 0, 15, 3), 0);
        dueNumber(x, 15, 3, 42);
        due("copy(1, 1, 15, 3)", x.copy(1, 1, 15, 3), 0);
        dueKey(x, 15, 3, 9);
        due("copy(1, 0, 15, 3)", x.copy(1, 0, 15, 3), 0);
        dueNumber(x, 15, 3, 42);
        due("copy(1, 1, 1, 2)", x.copy(1, 1, 1, 2), 0);
        dueKey(x, 1, 2, 9);
        dueNumber(x, 1, 0, 42);
        dueKey(x, 1, 1, 9);
        due("copy(0, 0, 1, 1)", x.copy(0, 0, 1, 1), 0);
        dueNumber(x, 1, 1, 0);
    }

    private static void copyOntoItself() {
        CheckpointedStore x = filled();
        for (int node = 0; node < 16; node++) {
            for (int slot = 0; slot < 4; slot++) {
                due("copy onto itself", x.copy(node, slot, node, slot), 0);
            }
        }
        dueFilled(x);
    }

    private static void copyIsNoLink() {
        CheckpointedStore x = new CheckpointedStore();
        x.write(1, 0, 42);
        x.copy(1, 0, 2, 0);
        x.write(1, 0, 43);
        dueNumber(x, 2, 0, 42);
        x.write(2, 0, 44);
        dueNumber(x, 1, 0, 43);
    }

    private static void copyRefuses() {
        CheckpointedStore x = filled();
        for (int node : NO_NODES) {
            due("copy(" + node + ", 0, 1, 2)", x.copy(node, 0, 1, 2), -1);
            due("copy(1, 2, " + node + ", 0)", x.copy(1, 2, node, 0), -1);
        }
        for (int slot : NO_SLOTS) {
            due("copy(5, " + slot + ", 1, 2)", x.copy(5, slot, 1, 2), -1);
            due("copy(1, 2, 5, " + slot + ")", x.copy(1, 2, 5, slot), -1);
        }
        dueFilled(x);
    }

    // Promise 5

    private static void rescindClearsNodeAndKeysToIt() {
        for (int node = 0; node < 16; node++) {
            CheckpointedStore x = filled();
            x.writeKey(node, 0, node);
            due("rescind(" + node + ")", x.rescind(node), 0);
            for (int slot = 0; slot < 4; slot++) {
                dueNumber(x, node, slot, 0);
            }
            dueNumber(x, (node + 15) % 16, 2, 0);
            dueNumber(x, 15 - node, 3, 0);
            due("keysTo(" + node + ")", x.keysTo(node), 0);
        }
    }

    private static void rescindLeavesTheRest() {
        CheckpointedStore x = filled();
        // These numbers look like keys to node 4, or like keys kept one higher, and are none.
        x.write(9, 0, 4);
        x.write(9, 1, 5);
        due("rescind(4)", x.rescind(4), 0);
        dueNumber(x, 9, 0, 4);
        dueNumber(x, 9, 1, 5);
        x.write(9, 0, 109);
        x.write(9, 1, -109);
        x.write(4, 0, 104);
        x.write(4, 1, -104);
        x.writeKey(4, 2, 5);
        x.writeKey(4, 3, 11);
        x.writeKey(3, 2, 4);
        x.writeKey(11, 3, 4);
        dueFilled(x);
    }

    private static void rescindLeavesOtherStores() {
        CheckpointedStore x = filled();
        x.snapshot();
        x.rescind(4);
        x.settle();
        x.rescind(5);
        x.crash();
        dueFilled(x);
    }

    private static void rescindRefuses() {
        CheckpointedStore x = filled();
        for (int node : NO_NODES) {
            due("rescind(" + node + ")", x.rescind(node), -1);
        }
        dueFilled(x);
        // -1 must not be taken as a key to no node either: all numbers stand.
        CheckpointedStore y = new CheckpointedStore();
        y.write(0, 0, 3);
        due("rescind(-1)", y.rescind(-1), -1);
        dueNumber(y, 0, 0, 3);
    }

    // Promises 6 and 7

    private static void keyAnswers() {
        CheckpointedStore x = filled();
        due("key(15, 2)", x.key(15, 2), 0);
        due("key(0, 3)", x.key(0, 3), 15);
        due("key(0, 0)", x.key(0, 0), -2);
        x.write(0, 0, 0);
        due("key(0, 0)", x.key(0, 0), -2);
        x.write(0, 0, 7);
        due("key(0, 0)", x.key(0, 0), -2);
        x.write(0, 0, 100);
        for (int node : NO_NODES) {
            due("key(" + node + ", 2)", x.key(node, 2), -1);
        }
        for (int slot : NO_SLOTS) {
            due("key(3, " + slot + ")", x.key(3, slot), -1);
        }
        dueFilled(x);
    }

    private static void numberAnswers() {
        CheckpointedStore x = filled();
        due("number(15, 0)", x.number(15, 0), 115);
        due("number(0, 1)", x.number(0, 1), -100);
        due("number(0, 3)", x.number(0, 3), 0);
        for (int node : NO_NODES) {
            due("number(" + node + ", 0)", x.number(node, 0), 0);
        }
        for (int slot : NO_SLOTS) {
            due("number(3, " + slot + ")", x.number(3, slot), 0);
        }
        dueFilled(x);
    }

    // Promise 8

    private static void followGoesByTheSameSlot() {
        CheckpointedStore x = filled();
        for (int steps = 0; steps <= 16; steps++) {
            due("follow(3, 2, " + steps + ")", x.follow(3, 2, steps), (3 + steps) % 16);
            due("follow(3, 3, " + steps + ")", x.follow(3, 3, steps), steps % 2 == 0 ? 3 : 12);
        }
        dueFilled(x);
    }

    private static void followClampsSteps() {
        CheckpointedStore x = new CheckpointedStore();
        // A ring of 15 nodes: 16 steps end one further than 15 do, and so does every wrong clamp.
        for (int node = 0; node < 15; node++) {
            x.writeKey(node, 1, (node + 1) % 15);
        }
        due("follow(0, 1, 15)", x.follow(0, 1, 15), 0);
        due("follow(0, 1, 16)", x.follow(0, 1, 16), 1);
        due("follow(0, 1, 17)", x.follow(0, 1, 17), 1);
        due("follow(0, 1, 18)", x.follow(0, 1, 18), 1);
        due("follow(0, 1, most)", x.follow(0, 1, Integer.MAX_VALUE), 1);
        due("follow(7, 1, 0)", x.follow(7, 1, 0), 7);
        due("follow(7, 1, -1)", x.follow(7, 1, -1), 7);
        due("follow(7, 1, least)", x.follow(7, 1, Integer.MIN_VALUE), 7);
        due("follow(15, 0, 0)", x.follow(15, 0, 0), 15);
        due("follow(15, 0, -1)", x.follow(15, 0, -1), 15);
    }

    private static void followStopsAtNumber() {
        CheckpointedStore x = new CheckpointedStore();
        x.writeKey(0, 0, 1);
        x.writeKey(1, 0, 2);
        x.write(2, 0, 3);
        x.writeKey(2, 1, 3);
        x.writeKey(3, 0, 4);
        due("follow(0, 0, 2)", x.follow(0, 0, 2), 2);
        due("follow(0, 0, 3)", x.follow(0, 0, 3), -2);
        due("follow(0, 0, 4)", x.follow(0, 0, 4), -2);
        due("follow(0, 0, 16)", x.follow(0, 0, 16), -2);
        due("follow(2, 0, 0)", x.follow(2, 0, 0), 2);
        due("follow(2, 0, 1)", x.follow(2, 0, 1), -2);
        // All 16 nodes in a row, the last holding a number: 15 steps are well, the 16th is not.
        CheckpointedStore y = filled();
        y.write(15, 2, 0);
        due("follow(0, 2, 15)", y.follow(0, 2, 15), 15);
        due("follow(0, 2, 16)", y.follow(0, 2, 16), -2);
        due("follow(0, 2, 17)", y.follow(0, 2, 17), -2);
    }

    private static void followRefuses() {
        CheckpointedStore x = filled();
        int[] steps = {-1, 0, 1, 16, 17};
        for (int count : steps) {
            for (int node : NO_NODES) {
                due("follow(" + node + ", 2, " + count + ")", x.follow(node, 2, count), -1);
            }
            for (int slot : NO_SLOTS) {
                due("follow(3, " + slot + ", " + count + ")", x.follow(3, slot, count), -1);
            }
        }
        dueFilled(x);
    }

    // Promise 9

    private static void snapshotIsACopy() {
        CheckpointedStore x = filled();
        due("snapshot()", x.snapshot(), 0);
        dueFilled(x);
        x.write(0, 0, 1);
        x.writeKey(1, 1, 1);
        x.copy(2, 2, 3, 0);
        x.rescind(7);
        dueNumber(x, 0, 0, 1);
        dueKey(x, 1, 1, 1);
        dueKey(x, 3, 0, 3);
        dueNumber(x, 7, 0, 0);
        due("settle()", x.settle(), 0);
        x.crash();
        dueFilled(x);
    }

    private static void snapshotRefusedWhileOneIsOpen() {
        CheckpointedStore x = new CheckpointedStore();
        x.write(0, 0, 1);
        due("snapshot()", x.snapshot(), 0);
        x.write(0, 0, 2);
        due("snapshot()", x.snapshot(), -1);
        due("snapshot()", x.snapshot(), -1);
        dueNumber(x, 0, 0, 2);
        due("settle()", x.settle(), 0);
        due("snapshot()", x.snapshot(), 0);
        due("snapshot()", x.snapshot(), -1);
        x.crash();
        dueNumber(x, 0, 0, 1);
        due("snapshot()", x.snapshot(), 0);
    }

    // Promise 10

    private static void settleTakesTheSnapshot() {
        CheckpointedStore x = new CheckpointedStore();
        x.write(0, 0, 1);
        x.writeKey(5, 3, 0);
        x.snapshot();
        x.write(0, 0, 2);
        x.write(5, 3, 6);
        due("settle()", x.settle(), 0);
        dueNumber(x, 0, 0, 2);
        dueNumber(x, 5, 3, 6);
        due("settle()", x.settle(), -1);
        x.crash();
        dueNumber(x, 0, 0, 1);
        dueKey(x, 5, 3, 0);
        x.write(0, 0, 3);
        x.write(5, 3, 4);
        x.snapshot();
        due("settle()", x.settle(), 0);
        x.crash();
        dueNumber(x, 0, 0, 3);
        dueNumber(x, 5, 3, 4);
    }

    private static void settleRefusedWithoutSnapshot() {
        CheckpointedStore x = new CheckpointedStore();
        x.write(0, 0, 1);
        due("settle()", x.settle(), -1);
        dueNumber(x, 0, 0, 1);
        x.crash();
        dueNumber(x, 0, 0, 0);
        x.write(0, 0, 2);
        x.snapshot();
        x.settle();
        x.write(0, 0, 3);
        due("settle()", x.settle(), -1);
        dueNumber(x, 0, 0, 3);
        x.crash();
        dueNumber(x, 0, 0, 2);
    }

    // Promise 11

    private static void crashGoesBackToSettled() {
        CheckpointedStore x = filled();
        x.snapshot();
        x.settle();
        for (int node = 0; node < 16; node++) {
            x.rescind(node);
        }
        dueFresh(x);
        x.crash();
        dueFilled(x);
    }

    private static void crashLosesOpenSnapshot() {
        CheckpointedStore x = new CheckpointedStore();
        x.write(0, 0, 1);
        x.snapshot();
        x.crash();
        due("settle()", x.settle(), -1);
        dueNumber(x, 0, 0, 0);
        x.crash();
        dueNumber(x, 0, 0, 0);
        x.write(0, 0, 2);
        due("snapshot()", x.snapshot(), 0);
        due("settle()", x.settle(), 0);
        x.crash();
        dueNumber(x, 0, 0, 2);
    }

    private static void crashLeavesSettledStore() {
        CheckpointedStore x = filled();
        x.snapshot();
        x.settle();
        x.crash();
        // The present store is a copy: writing on it after the crash must not reach the settled one.
        x.write(0, 0, 1);
        x.writeKey(1, 0, 1);
        x.rescind(9);
        x.crash();
        dueFilled(x);
        x.crash();
        dueFilled(x);
    }

    // Promise 12

    private static void idleChangesNothing() {
        int[] turns = {0, 1, -1, 16, 1000000, Integer.MAX_VALUE, Integer.MIN_VALUE};
        CheckpointedStore x = filled();
        idleOften(x, turns);
        dueFilled(x);
        due("settle()", x.settle(), -1);
        due("snapshot()", x.snapshot(), 0);
        idleOften(x, turns);
        due("snapshot()", x.snapshot(), -1);
        x.write(0, 0, 1);
        idleOften(x, turns);
        dueNumber(x, 0, 0, 1);
        due("settle()", x.settle(), 0);
        idleOften(x, turns);
        due("settle()", x.settle(), -1);
        dueNumber(x, 0, 0, 1);
        x.crash();
        idleOften(x, turns);
        dueFilled(x);
    }

    private static void idleOften(CheckpointedStore x, int[] turns) {
        for (int count : turns) {
            x.idle(count);
        }
    }

    // Promise 13

    private static void keysToCounts() {
        CheckpointedStore x = filled();
        for (int node = 0; node < 16; node++) {
            due("keysTo(" + node + ")", x.keysTo(node), 2);
        }
        x.write(0, 0, 9);
        x.write(0, 1, 10);
        due("keysTo(9)", x.keysTo(9), 2);
        x.writeKey(9, 0, 9);
        due("keysTo(9)", x.keysTo(9), 3);
        x.writeKey(9, 0, 9);
        due("keysTo(9)", x.keysTo(9), 3);
        x.copy(9, 0, 9, 1);
        due("keysTo(9)", x.keysTo(9), 4);
        x.crash();
        due("keysTo(9)", x.keysTo(9), 0);
        for (int count = 0; count < 64; count++) {
            due("keysTo(15)", x.keysTo(15), count);
            x.writeKey(count / 4, count % 4, 15);
        }
        due("keysTo(15)", x.keysTo(15), 64);
        due("keysTo(0)", x.keysTo(0), 0);
        x.snapshot();
        x.rescind(15);
        due("keysTo(15)", x.keysTo(15), 0);
    }

    private static void keysToRefuses() {
        CheckpointedStore x = filled();
        for (int node : NO_NODES) {
            due("keysTo(" + node + ")", x.keysTo(node), -1);
        }
        dueFilled(x);
    }
}
