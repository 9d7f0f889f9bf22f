import java.util.ArrayList;
import java.util.List;
import java.util.function.Consumer;

/**
 * "A node number must be from 0 to 15 and a slot number from 0 to 3, else the call is refused: it answers as
 * said and changes nothing." One test for each parameter of each call that takes such a number: the last
 * numbers inside the bounds are taken, every number outside is refused, and a refused call leaves the present
 * store, an open snapshot and the settled store as they were.
 */
public final class RefusalTest {
    private static final List<Integer> NO_NODES = numbersOutside(Image.NODES);
    private static final List<Integer> NO_SLOTS = numbersOutside(Image.SLOTS);
    private static final int[] STEPS = {Integer.MIN_VALUE, -1, 0, 1, 2, 15, 16, 17, Integer.MAX_VALUE};
    private static final int[] VALUES = {0, 7, -1, Integer.MIN_VALUE, Integer.MAX_VALUE};

    /** A call that is to be made with a number that does not fit and with numbers that fit beside it. */
    private interface Call {
        void make(Watched x, int wrong, int node, int slot);
    }

    public static void main(String[] args) {
        test("write, node", RefusalTest::writeNode);
        test("write, slot", RefusalTest::writeSlot);
        test("write, taken at the bounds", RefusalTest::writeTaken);
        test("writeKey, node", RefusalTest::writeKeyNode);
        test("writeKey, slot", RefusalTest::writeKeySlot);
        test("writeKey, target", RefusalTest::writeKeyTarget);
        test("writeKey, taken at the bounds", RefusalTest::writeKeyTaken);
        test("copy, node", RefusalTest::copyNode);
        test("copy, slot", RefusalTest::copySlot);
        test("copy, to", RefusalTest::copyTo);
        test("copy, toSlot", RefusalTest::copyToSlot);
        test("copy, taken at the bounds", RefusalTest::copyTaken);
        test("rescind, node", RefusalTest::rescindNode);
        test("rescind, taken at the bounds", RefusalTest::rescindTaken);
        test("key, node", RefusalTest::keyNode);
        test("key, slot", RefusalTest::keySlot);
        test("number, node", RefusalTest::numberNode);
        test("number, slot", RefusalTest::numberSlot);
        test("key and number, taken at the bounds", RefusalTest::keyAndNumberTaken);
        test("follow, node", RefusalTest::followNode);
        test("follow, slot", RefusalTest::followSlot);
        test("follow, taken at the bounds", RefusalTest::followTaken);
        test("keysTo, node", RefusalTest::keysToNode);
        test("keysTo, taken at the bounds", RefusalTest::keysToTaken);
        test("several numbers that do not fit in one call", RefusalTest::severalWrong);
        Report.end();
    }

    private static void test(String part, Runnable body) {
        Report.test("Terms: A node number must be from 0 to 15 and a slot number from 0 to 3, else refused: " + part, body);
    }

    /** All small numbers outside 0 to bound - 1, the ends of the int range, and what lies near powers of two. */
    private static List<Integer> numbersOutside(int bound) {
        List<Integer> all = new ArrayList<>();
        for (int number = -70; number <= 70; number++) {
            all.add(number);
        }
        for (int bit = 7; bit <= 31; bit++) {
            // Such numbers come back inside the bounds where they are cut, masked or multiplied unseen.
            for (int near = -2; near <= 3; near++) {
                all.add((1 << bit) + near);
                all.add(-(1 << bit) + near);
            }
        }
        all.removeIf(number -> number >= 0 && number < bound);
        return all;
    }

    private static void nodeRefused(Call call) {
        for (int slot = 0; slot < Image.SLOTS; slot++) {
            refused(NO_NODES, call, 0, slot);
            refused(NO_NODES, call, 15, slot);
        }
    }

    private static void slotRefused(Call call) {
        for (int node = 0; node < Image.NODES; node++) {
            refused(NO_SLOTS, call, node, 0);
        }
    }

    private static void refused(List<Integer> numbers, Call call, int node, int slot) {
        for (Scene scene : Scene.all()) {
            for (int first = 0; first < numbers.size(); first += Scene.ROOM) {
                List<Integer> some = numbers.subList(first, Math.min(first + Scene.ROOM, numbers.size()));
                scene.unchangedBy(x -> some.forEach(wrong -> call.make(x, wrong, node, slot)));
            }
        }
    }

    private static void forEachSlot(SlotCheck check) {
        for (Scene scene : Scene.all()) {
            for (int node = 0; node < Image.NODES; node++) {
                for (int slot = 0; slot < Image.SLOTS; slot++) {
                    check.check(scene, node, slot);
                }
            }
        }
    }

    private interface SlotCheck {
        void check(Scene scene, int node, int slot);
    }

    private static void writeNode() {
        for (int value : VALUES) {
            nodeRefused((x, wrong, node, slot) -> x.write(wrong, slot, value).due(-1));
        }
    }

    private static void writeSlot() {
        for (int value : VALUES) {
            slotRefused((x, wrong, node, slot) -> x.write(node, wrong, value).due(-1));
        }
    }

    private static void writeTaken() {
        forEachSlot((scene, node, slot) -> scene.turnsBy(
            x -> x.write(node, slot, 7).due(0),
            scene.present(scene.present.number(node, slot, 7))));
    }

    private static void writeKeyNode() {
        nodeRefused((x, wrong, node, slot) -> x.writeKey(wrong, slot, node).due(-1));
    }

    private static void writeKeySlot() {
        slotRefused((x, wrong, node, slot) -> x.writeKey(node, wrong, 15 - node).due(-1));
    }

    private static void writeKeyTarget() {
        nodeRefused((x, wrong, node, slot) -> x.writeKey(node, slot, wrong).due(-1));
    }

    private static void writeKeyTaken() {
        for (int target : new int[] {0, 1, 14, 15}) {
            forEachSlot((scene, node, slot) -> scene.turnsBy(
                x -> x.writeKey(node, slot, target).due(0),
                scene.present(scene.present.key(node, slot, target))));
        }
    }

    private static void copyNode() {
        nodeRefused((x, wrong, node, slot) -> x.copy(wrong, slot, node, 3 - slot).due(-1));
    }

    private static void copySlot() {
        slotRefused((x, wrong, node, slot) -> x.copy(node, wrong, 15 - node, slot).due(-1));
    }

    private static void copyTo() {
        nodeRefused((x, wrong, node, slot) -> x.copy(node, slot, wrong, 3 - slot).due(-1));
    }

    private static void copyToSlot() {
        slotRefused((x, wrong, node, slot) -> x.copy(15 - node, slot, node, wrong).due(-1));
    }

    private static void copyTaken() {
        int[][] ends = {{0, 0}, {0, 3}, {15, 0}, {15, 3}, {7, 1}, {8, 2}};
        for (int[] end : ends) {
            forEachSlot((scene, node, slot) -> scene.turnsBy(
                x -> x.copy(node, slot, end[0], end[1]).due(0),
                scene.present(scene.present.copied(node, slot, end[0], end[1]))));
            forEachSlot((scene, node, slot) -> scene.turnsBy(
                x -> x.copy(end[0], end[1], node, slot).due(0),
                scene.present(scene.present.copied(end[0], end[1], node, slot))));
        }
    }

    private static void rescindNode() {
        refused(NO_NODES, (x, wrong, node, slot) -> x.rescind(wrong).due(-1), 0, 0);
    }

    private static void rescindTaken() {
        for (Scene scene : Scene.all()) {
            for (int node = 0; node < Image.NODES; node++) {
                int taken = node;
                scene.turnsBy(x -> x.rescind(taken).due(0), scene.present(scene.present.rescinded(taken)));
            }
        }
    }

    private static void keyNode() {
        nodeRefused((x, wrong, node, slot) -> x.key(wrong, slot).due(-1));
    }

    private static void keySlot() {
        slotRefused((x, wrong, node, slot) -> x.key(node, wrong).due(-1));
    }

    private static void numberNode() {
        nodeRefused((x, wrong, node, slot) -> x.number(wrong, slot).due(0));
    }

    private static void numberSlot() {
        slotRefused((x, wrong, node, slot) -> x.number(node, wrong).due(0));
    }

    private static void keyAndNumberTaken() {
        for (Scene scene : Scene.all()) {
            scene.present.dueIn(scene.made());
        }
        forEachSlot((scene, node, slot) -> scene.unchangedBy(x -> {
            x.key(node, slot).due(scene.present.keyIn(node, slot));
            x.number(node, slot).due(scene.present.numberIn(node, slot));
        }));
    }

    private static void followNode() {
        for (int steps : STEPS) {
            nodeRefused((x, wrong, node, slot) -> x.follow(wrong, slot, steps).due(-1));
        }
    }

    private static void followSlot() {
        for (int steps : STEPS) {
            slotRefused((x, wrong, node, slot) -> x.follow(node, wrong, steps).due(-1));
        }
    }

    private static void followTaken() {
        forEachSlot((scene, node, slot) -> scene.unchangedBy(x -> {
            x.follow(node, slot, 0).due(node);
            x.follow(node, slot, 1).due(scene.present.keyIn(node, slot));
        }));
    }

    private static void keysToNode() {
        refused(NO_NODES, (x, wrong, node, slot) -> x.keysTo(wrong).due(-1), 0, 0);
    }

    private static void keysToTaken() {
        for (Scene scene : Scene.all()) {
            scene.unchangedBy(scene.present::dueKeysIn);
        }
    }

    private static void severalWrong() {
        int[] noNodes = {Integer.MIN_VALUE, -1, 16, Integer.MAX_VALUE};
        int[] noSlots = {Integer.MIN_VALUE, -1, 4, Integer.MAX_VALUE};
        for (int node : noNodes) {
            for (int slot : noSlots) {
                Consumer<Watched> calls = x -> {
                    x.write(node, slot, 7).due(-1);
                    x.writeKey(node, slot, 3).due(-1);
                    x.writeKey(node, slot, node).due(-1);
                    x.writeKey(node, 0, node).due(-1);
                    x.writeKey(0, slot, node).due(-1);
                    x.copy(node, slot, 0, 0).due(-1);
                    x.copy(0, 0, node, slot).due(-1);
                    x.copy(node, 0, node, 0).due(-1);
                    x.copy(0, slot, 0, slot).due(-1);
                    x.copy(node, slot, node, slot).due(-1);
                    x.key(node, slot).due(-1);
                    x.number(node, slot).due(0);
                    x.follow(node, slot, 0).due(-1);
                    x.follow(node, slot, 16).due(-1);
                };
                for (Scene scene : Scene.all()) {
                    scene.unchangedBy(calls);
                }
            }
        }
    }
}
