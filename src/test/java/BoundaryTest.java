import java.util.ArrayList;
import java.util.List;
import java.util.function.Consumer;

/**
 * Each sentence of the document that names a boundary case has a test of its own here; what is said of
 * refused node and slot numbers has them in RefusalTest.
 */
public final class BoundaryTest {
    private static final int LEAST = Integer.MIN_VALUE;
    private static final int MOST = Integer.MAX_VALUE;
    /** Among them every number that a program could take for a key, for no key, or for a refusal. */
    private static final int[] VALUES = {
        LEAST, LEAST + 1, -65536, -17, -16, -15, -3, -2, -1, 0, 1, 2, 3, 4, 5, 6, 7, 8, 9, 10, 11, 12, 13, 14, 15,
        16, 17, 255, 256, 65536, MOST - 1, MOST};
    private static final int[] TURNS = {0, 1, -1, 2, 3, 4, 15, 16, 17, 63, 64, 65, 512, 1000000, MOST, LEAST, -64};

    public static void main(String[] args) {
        whatItIs();
        terms();
        writingPromises();
        readingPromises();
        checkpointPromises();
        Report.end();
    }

    private static void whatItIs() {
        Report.test("What it is: after a crash the store is as the last settled snapshot shows it",
            BoundaryTest::lastSettledCounts);
        Report.test("What it is: at most 512 calls (the last of them answers as promised)",
            BoundaryTest::lastCallsAnswer);
    }

    private static void terms() {
        Report.test("Terms: NODES 0 to 15 have 4 slots each, 0 to 3", BoundaryTest::slotsAreApart);
        Report.test("Terms: A slot holds a NUMBER (an int) or a KEY to a node", BoundaryTest::numbersAreNoKeys);
        Report.test("Terms: All slots of a fresh object hold the number 0", BoundaryTest::freshSlots);
        Report.test("Terms: RESCINDING a node makes all four of its slots hold the number 0",
            BoundaryTest::rescindingOwnSlots);
        Report.test("Terms: RESCINDING makes every slot of every node that holds a key to it hold the number 0",
            BoundaryTest::rescindingKeysToIt);
        Report.test("Terms: RESCINDING (a key in its own slots, to itself)", BoundaryTest::rescindingOwnKeys);
        Report.test("Terms: RESCINDING (what is neither its slot nor a key to it stays)",
            BoundaryTest::rescindingLeavesTheRest);
        Report.test("Terms: RESCINDING (an empty node without keys to it; the same node twice)",
            BoundaryTest::rescindingTwice);
        Report.test("Terms: THREE STORES: all writing and reading calls work on the present store",
            BoundaryTest::callsWorkOnPresent);
        Report.test("Terms: THREE STORES: A fresh object has no open snapshot", BoundaryTest::freshHasNoOpen);
        Report.test("Terms: THREE STORES: its settled store is the fresh one", BoundaryTest::freshSettled);
        Report.test("Terms: A snapshot is a copy of the present store at the moment when it is taken",
            BoundaryTest::snapshotIsTheWholeStore);
        Report.test("Terms: later writing doesn't change it (open)", BoundaryTest::laterWritingLeavesOpen);
        Report.test("Terms: later writing doesn't change it (settled)", BoundaryTest::laterWritingLeavesSettled);
    }

    private static void writingPromises() {
        Report.test("Promise 1: The fresh store, present and settled; no open snapshot", BoundaryTest::newObject);
        Report.test("Promise 1: A new object (beside another one)", BoundaryTest::objectsShareNothing);
        Report.test("Promise 2: The slot holds the number value", BoundaryTest::writeEveryValue);
        Report.test("Promise 2: The slot holds the number value (near each power of two)",
            BoundaryTest::writeNearPowersOfTwo);
        Report.test("Promise 3: -1 if refused (also if target is not a node number)", BoundaryTest::noTarget);
        Report.test("Promise 3: The slot holds a key to the node target", BoundaryTest::everyTarget);
        Report.test("Promise 4: a number copied onto its own slot", BoundaryTest::copyNumberOntoItself);
        Report.test("Promise 4: a key copied onto its own slot", BoundaryTest::copyKeyOntoItself);
        Report.test("Promise 4: holds what the slot of node holds (number or key)", BoundaryTest::copyOverEach);
        Report.test("Promise 4: The slot toSlot of node to holds what the slot of node holds (each slot into each)",
            BoundaryTest::copyEachIntoEach);
        Report.test("Promise 4: a copied slot is no link to the first one", BoundaryTest::copyIsNoLink);
        Report.test("Promise 5: Rescinds the node in the present store", BoundaryTest::rescindOnlyPresent);
    }

    private static void readingPromises() {
        Report.test("Promise 6: -2 if it holds a number", BoundaryTest::keyOfNumber);
        Report.test("Promise 7: 0 if it holds a key", BoundaryTest::numberOfKey);
        Report.test("Promise 7: 0 if refused", BoundaryTest::numberRefused);
        Report.test("Promise 8: steps times in all", BoundaryTest::followEachCount);
        Report.test("Promise 8: and so on (a row of nodes that runs into a ring)", BoundaryTest::followIntoRing);
        Report.test("Promise 8: by the key in the same slot of the node reached", BoundaryTest::followSameSlot);
        Report.test("Promise 8: steps below 0 is taken as 0", BoundaryTest::followBelowZero);
        Report.test("Promise 8: steps above 16 as 16", BoundaryTest::followAboveSixteen);
        Report.test("Promise 8: -2 if on the way a slot holds a number", BoundaryTest::followMeetsNumber);
        Report.test("Promise 8: no slot is on the way of 0 steps", BoundaryTest::followZeroSteps);
        Report.test("Promise 8: -1 if refused (before -2, and with any steps)", BoundaryTest::followRefused);
        Report.test("Promise 13: no key at all", BoundaryTest::keysToNone);
        Report.test("Promise 13: every slot a key to the node", BoundaryTest::keysToAll);
        Report.test("Promise 13: How many slots of the present store", BoundaryTest::keysToOnlyPresent);
        Report.test("Promise 13: -1 if refused", BoundaryTest::keysToRefused);
    }

    private static void checkpointPromises() {
        Report.test("Promise 9: Takes a snapshot. Answers 0", BoundaryTest::snapshotTaken);
        Report.test("Promise 9: -1, and changes nothing, if one is open", BoundaryTest::snapshotRefused);
        Report.test("Promise 10: The open snapshot becomes the settled store, and none is open then",
            BoundaryTest::settleTaken);
        Report.test("Promise 10: -1, and changes nothing, if none is open", BoundaryTest::settleRefused);
        Report.test("Promise 11: the present store becomes a copy of the settled store", BoundaryTest::crashCopies);
        Report.test("Promise 11: an open snapshot is lost", BoundaryTest::crashLosesOpen);
        Report.test("Promise 12: no answer depends on idle (each number, in each state)", BoundaryTest::idleAlone);
        Report.test("Promise 12: no answer depends on idle (between all calls)", BoundaryTest::idleBetween);
        Report.test("Promise 12: no answer depends on idle (very often)", BoundaryTest::idleOften);
    }

    private static void inAllScenes(Consumer<Scene> check) {
        for (Scene scene : Scene.all()) {
            check.accept(scene);
        }
    }

    private static void forEachSlot(SlotCheck check) {
        for (int node = 0; node < Image.NODES; node++) {
            for (int slot = 0; slot < Image.SLOTS; slot++) {
                check.check(node, slot);
            }
        }
    }

    private interface SlotCheck {
        void check(int node, int slot);
    }

    // What it is

    private static void lastSettledCounts() {
        Watched x = new Watched();
        for (int round = 1; round <= 20; round++) {
            x.write(0, 0, round);
            x.writeKey(15, 3, round % 16);
            x.snapshot().due(0);
            x.write(0, 0, -round);
            x.settle().due(0);
            // A snapshot that is taken later and not settled does not count.
            x.snapshot().due(0);
            x.crash();
            x.dueNumber(0, 0, round);
            x.dueKey(15, 3, round % 16);
            x.write(0, 0, 77);
            x.write(15, 3, 78);
            x.crash();
            x.dueNumber(0, 0, round);
            x.dueKey(15, 3, round % 16);
        }
    }

    private static void lastCallsAnswer() {
        List<Consumer<Watched>> lastCalls = List.of(
            x -> x.write(15, 3, 9).due(0),
            x -> x.write(16, 3, 9).due(-1),
            x -> x.writeKey(15, 3, 9).due(0),
            x -> x.copy(0, 0, 15, 3).due(0),
            x -> x.rescind(15).due(0),
            x -> x.key(0, 1).due(3),
            x -> x.number(0, 0).due(511),
            x -> x.follow(0, 1, 17).due(3),
            x -> x.snapshot().due(-1),
            x -> x.settle().due(0),
            x -> x.keysTo(3).due(2));
        for (Consumer<Watched> lastCall : lastCalls) {
            Watched x = new Watched();
            x.writeKey(0, 1, 3).due(0);
            x.writeKey(3, 1, 3).due(0);
            x.snapshot().due(0);
            while (x.calls() < Watched.MOST_CALLS - 1) {
                x.write(0, 0, x.calls() + 1).due(0);
            }
            lastCall.accept(x);
        }
        Watched y = new Watched();
        y.write(0, 0, 5).due(0);
        y.snapshot().due(0);
        y.settle().due(0);
        while (y.calls() < Watched.MOST_CALLS - 2) {
            y.write(0, 0, y.calls()).due(0);
        }
        y.crash();
        y.number(0, 0).due(5);
    }

    // Terms

    private static void slotsAreApart() {
        Watched x = new Watched();
        Image each = Image.fresh();
        for (int node = 0; node < Image.NODES; node++) {
            for (int slot = 0; slot < Image.SLOTS; slot++) {
                each = each.number(node, slot, 100 * node + slot + 1);
            }
        }
        each.writeTo(x);
        each.dueIn(x);
        inAllScenes(scene -> forEachSlot((node, slot) -> {
            Scene due = scene.present(scene.present.number(node, slot, -9));
            scene.turnsBy(y -> y.write(node, slot, -9).due(0), due);
        }));
    }

    private static void numbersAreNoKeys() {
        for (int value : VALUES) {
            Watched x = new Watched();
            x.write(2, 1, value).due(0);
            x.dueNumber(2, 1, value);
            x.follow(2, 1, 1).due(-2);
            Image.fresh().dueKeysIn(x);
            for (int node = 0; node < Image.NODES; node++) {
                if (node != 2) {
                    x.rescind(node).due(0);
                }
            }
            x.dueNumber(2, 1, value);
            x.copy(2, 1, 13, 0).due(0);
            x.dueNumber(13, 0, value);
            x.snapshot().due(0);
            x.settle().due(0);
            x.rescind(2).due(0);
            x.dueNumber(2, 1, 0);
            x.crash();
            x.dueNumber(2, 1, value);
            x.dueNumber(13, 0, value);
            Image.fresh().dueKeysIn(x);
        }
    }

    private static void freshSlots() {
        Watched x = new Watched();
        Image.fresh().dueIn(x);
        Image.fresh().dueKeysIn(x);
        forEachSlot((node, slot) -> x.follow(node, slot, 1).due(-2));
    }

    private static void rescindingOwnSlots() {
        for (int node = 0; node < Image.NODES; node++) {
            int rescinded = node;
            Image numbers = Image.fresh();
            Image keys = Image.fresh();
            for (int slot = 0; slot < Image.SLOTS; slot++) {
                numbers = numbers.number(node, slot, slot == 0 ? LEAST : slot == 3 ? MOST : slot);
                keys = keys.key(node, slot, (node + 5 * slot + 1) % Image.NODES);
            }
            for (Image present : List.of(numbers, keys)) {
                inAllScenes(scene -> scene.present(present).turnsBy(
                    x -> x.rescind(rescinded).due(0), scene.present(Image.fresh())));
            }
        }
    }

    private static void rescindingKeysToIt() {
        for (int node = 0; node < Image.NODES; node++) {
            int rescinded = node;
            Scene all = Scene.withOpen().present(Image.allKeysTo(rescinded));
            all.turnsBy(x -> x.rescind(rescinded).due(0), all.present(Image.fresh()));
            forEachSlot((from, slot) -> {
                Watched x = new Watched();
                // The slot's earlier number must not come back when its key goes.
                x.write(from, slot, 77).due(0);
                x.writeKey(from, slot, rescinded).due(0);
                x.rescind(rescinded).due(0);
                x.dueNumber(from, slot, 0);
                Image.fresh().dueIn(x);
            });
        }
    }

    private static void rescindingOwnKeys() {
        for (int node = 0; node < Image.NODES; node++) {
            Watched x = new Watched();
            for (int slot = 0; slot < Image.SLOTS; slot++) {
                x.writeKey(node, slot, node).due(0);
            }
            x.keysTo(node).due(4);
            x.rescind(node).due(0);
            x.keysTo(node).due(0);
            Image.fresh().dueIn(x);
        }
    }

    private static void rescindingLeavesTheRest() {
        for (int node = 0; node < Image.NODES; node++) {
            int rescinded = node;
            int other = (node + 1) % Image.NODES;
            Scene keysToOther = Scene.withOpen().present(Image.allKeysTo(other));
            Image due = Image.allKeysTo(other);
            for (int slot = 0; slot < Image.SLOTS; slot++) {
                due = due.number(node, slot, 0);
            }
            keysToOther.turnsBy(x -> x.rescind(rescinded).due(0), keysToOther.present(due));
        }
        // A node that a rescinded node had a key to is not rescinded with it, nor one that had a key to it.
        Watched x = new Watched();
        x.writeKey(4, 0, 5);
        x.writeKey(5, 0, 6);
        x.write(5, 1, 55);
        x.writeKey(3, 0, 4);
        x.write(3, 1, 33);
        x.rescind(4).due(0);
        x.dueKey(5, 0, 6);
        x.dueNumber(5, 1, 55);
        x.dueNumber(3, 0, 0);
        x.dueNumber(3, 1, 33);
        x.dueNumber(4, 0, 0);
    }

    private static void rescindingTwice() {
        for (int node = 0; node < Image.NODES; node++) {
            int rescinded = node;
            Scene.fresh().unchangedBy(x -> x.rescind(rescinded).due(0));
            inAllScenes(scene -> scene.turnsBy(
                x -> {
                    x.rescind(rescinded).due(0);
                    x.rescind(rescinded).due(0);
                },
                scene.present(scene.present.rescinded(rescinded))));
            // A rescinded node is a node like any other afterwards.
            Watched x = new Watched();
            x.rescind(node).due(0);
            x.write(node, 0, 8).due(0);
            x.writeKey(node, 3, node).due(0);
            x.dueNumber(node, 0, 8);
            x.dueKey(node, 3, node);
            x.keysTo(node).due(1);
        }
    }

    private static void callsWorkOnPresent() {
        inAllScenes(scene -> {
            Image present = scene.present.number(0, 0, 70).key(15, 3, 15).copied(15, 3, 7, 2).rescinded(9);
            scene.turnsBy(
                x -> {
                    x.write(0, 0, 70).due(0);
                    x.writeKey(15, 3, 15).due(0);
                    x.copy(15, 3, 7, 2).due(0);
                    x.rescind(9).due(0);
                },
                scene.present(present));
            scene.unchangedBy(x -> {
                x.key(0, 0).due(scene.present.keyIn(0, 0));
                x.number(0, 0).due(scene.present.numberIn(0, 0));
                x.follow(0, 1, 1).due(scene.present.keyIn(0, 1));
                x.keysTo(0).due(scene.present.keysTo(0));
            });
        });
    }

    private static void freshHasNoOpen() {
        Watched x = new Watched();
        x.settle().due(-1);
        Watched y = new Watched();
        y.snapshot().due(0);
        y.snapshot().due(-1);
    }

    private static void freshSettled() {
        Watched x = new Watched();
        x.crash();
        Image.fresh().dueIn(x);
        Watched y = new Watched();
        Image.mixed(1).writeTo(y);
        y.crash();
        Image.fresh().dueIn(y);
        Image.fresh().dueKeysIn(y);
    }

    private static void snapshotIsTheWholeStore() {
        List<Image> images = new ArrayList<>(List.of(Image.fresh(), Image.mixed(1), Image.mixed(2), Image.mixed(3)));
        for (int target = 0; target < Image.NODES; target++) {
            images.add(Image.allKeysTo(target));
        }
        for (Image image : images) {
            Scene scene = Scene.withoutOpen().present(image);
            scene.turnsBy(x -> x.snapshot().due(0), new Scene(image, image, scene.settled));
        }
        // What was written and overwritten before the moment is no part of it.
        Watched x = new Watched();
        x.write(3, 3, 1);
        x.writeKey(3, 2, 1);
        x.writeKey(3, 3, 2);
        x.write(3, 2, 2);
        x.snapshot().due(0);
        x.settle().due(0);
        x.crash();
        x.dueKey(3, 3, 2);
        x.dueNumber(3, 2, 2);
    }

    /** Each call that writes, at each slot it can change, as a change of the present store alone. */
    private static void dueEachWriting(Scene scene) {
        forEachSlot((node, slot) -> {
            scene.turnsBy(x -> x.write(node, slot, MOST).due(0),
                scene.present(scene.present.number(node, slot, MOST)));
            scene.turnsBy(x -> x.writeKey(node, slot, 15 - node).due(0),
                scene.present(scene.present.key(node, slot, 15 - node)));
            scene.turnsBy(x -> x.copy(15 - node, 3 - slot, node, slot).due(0),
                scene.present(scene.present.copied(15 - node, 3 - slot, node, slot)));
            scene.turnsBy(
                x -> {
                    x.write(node, slot, 1).due(0);
                    x.write(node, slot, 2).due(0);
                },
                scene.present(scene.present.number(node, slot, 2)));
        });
        for (int node = 0; node < Image.NODES; node++) {
            int rescinded = node;
            scene.turnsBy(x -> x.rescind(rescinded).due(0), scene.present(scene.present.rescinded(rescinded)));
        }
        Image all = Image.fresh();
        scene.turnsBy(
            x -> {
                for (int node = 0; node < Image.NODES; node++) {
                    x.rescind(node).due(0);
                }
            },
            scene.present(all));
    }

    private static void laterWritingLeavesOpen() {
        dueEachWriting(Scene.withOpen());
        dueEachWriting(Scene.withFirstOpen());
        // The moment counts: nothing is written between the snapshot and the first writing here.
        forEachSlot((node, slot) -> {
            Image image = Image.mixed(2);
            Watched x = new Watched();
            image.writeTo(x);
            x.snapshot().due(0);
            x.write(node, slot, 5).due(0);
            x.rescind((node + 3) % Image.NODES).due(0);
            image.number(node, slot, 5).rescinded((node + 3) % Image.NODES).dueIn(x);
            x.settle().due(0);
            x.crash();
            image.dueIn(x);
        });
    }

    private static void laterWritingLeavesSettled() {
        dueEachWriting(Scene.withoutOpen());
        // After a crash the present store is a copy again: writing on it must not reach the settled one.
        forEachSlot((node, slot) -> {
            Scene scene = Scene.withoutOpen();
            scene.turnsBy(
                x -> {
                    x.crash();
                    x.writeKey(node, slot, node).due(0);
                },
                scene.present(scene.settled.key(node, slot, node)));
        });
    }

    // Promises 1 to 5

    private static void newObject() {
        Scene.fresh().unchangedBy(x -> { });
        Scene.fresh().turnsBy(x -> x.snapshot().due(0), new Scene(Image.fresh(), Image.fresh(), Image.fresh()));
    }

    private static void objectsShareNothing() {
        Watched x = Scene.withOpen().made();
        Scene.fresh().unchangedBy(y -> { });
        Watched z = Scene.fresh().made();
        z.settle().due(-1);
        z.crash();
        x.settle().due(0);
        Image.mixed(3).dueIn(x);
        x.crash();
        Image.mixed(2).dueIn(x);
    }

    private static void writeEveryValue() {
        for (int value : VALUES) {
            for (int[] place : new int[][] {{0, 0}, {0, 3}, {15, 0}, {15, 3}, {6, 1}}) {
                inAllScenes(scene -> scene.turnsBy(
                    x -> x.write(place[0], place[1], value).due(0),
                    scene.present(scene.present.number(place[0], place[1], value))));
            }
        }
    }

    private static void writeNearPowersOfTwo() {
        // A program that keeps numbers and keys in one int would have to take some of these for keys.
        for (int bit = 0; bit <= 31; bit++) {
            for (int near = -18; near <= 18; near++) {
                dueWritten((1 << bit) + near);
                dueWritten(-(1 << bit) + near);
            }
        }
    }

    private static void dueWritten(int value) {
        Watched x = new Watched();
        x.write(7, 2, value).due(0);
        x.copy(7, 2, 8, 1).due(0);
        for (int node = 0; node < Image.NODES; node++) {
            x.keysTo(node).due(0);
            if (node != 7 && node != 8) {
                x.rescind(node).due(0);
            }
        }
        x.dueNumber(7, 2, value);
        x.dueNumber(8, 1, value);
        x.follow(7, 2, 1).due(-2);
        x.snapshot().due(0);
        x.settle().due(0);
        x.writeKey(7, 2, 3).due(0);
        x.crash();
        x.dueNumber(7, 2, value);
        x.dueNumber(8, 1, value);
    }

    private static void noTarget() {
        int[] noTargets = {LEAST, LEAST + 1, -65536, -17, -16, -3, -2, -1, 16, 17, 31, 32, 256, 65536, MOST - 1, MOST};
        inAllScenes(scene -> forEachSlot((node, slot) -> scene.unchangedBy(x -> {
            for (int target : noTargets) {
                x.writeKey(node, slot, target).due(-1);
            }
        })));
    }

    private static void everyTarget() {
        for (int target = 0; target < Image.NODES; target++) {
            int to = target;
            forEachSlot((node, slot) -> {
                Watched x = new Watched();
                x.write(node, slot, -5).due(0);
                x.writeKey(node, slot, to).due(0);
                x.dueKey(node, slot, to);
                x.keysTo(to).due(1);
                x.writeKey(node, slot, to).due(0);
                x.keysTo(to).due(1);
                x.writeKey(node, slot, 15 - to).due(0);
                x.dueKey(node, slot, 15 - to);
                x.keysTo(to).due(0);
            });
        }
    }

    private static void copyNumberOntoItself() {
        for (int value : VALUES) {
            forEachSlot((node, slot) -> {
                Watched x = new Watched();
                x.write(node, slot, value).due(0);
                x.copy(node, slot, node, slot).due(0);
                x.dueNumber(node, slot, value);
            });
        }
        inAllScenes(scene -> forEachSlot((node, slot) ->
            scene.unchangedBy(x -> x.copy(node, slot, node, slot).due(0))));
    }

    private static void copyKeyOntoItself() {
        for (int target = 0; target < Image.NODES; target++) {
            int to = target;
            forEachSlot((node, slot) -> {
                Watched x = new Watched();
                x.writeKey(node, slot, to).due(0);
                x.copy(node, slot, node, slot).due(0);
                x.dueKey(node, slot, to);
                x.keysTo(to).due(1);
            });
        }
        inAllScenes(scene -> forEachSlot((node, slot) ->
            scene.present(scene.present.key(node, slot, node)).unchangedBy(
                x -> x.copy(node, slot, node, slot).due(0))));
    }

    private static void copyOverEach() {
        // Number or key over number or key, into another slot of the same node and into another node.
        int[][] places = {{3, 1, 3, 2}, {3, 1, 4, 1}, {0, 0, 15, 3}, {15, 3, 0, 0}, {0, 3, 1, 0}};
        for (int[] at : places) {
            Image empty = Image.mixed(3);
            List<Image> before = List.of(
                empty.number(at[0], at[1], LEAST).number(at[2], at[3], MOST),
                empty.number(at[0], at[1], 0).key(at[2], at[3], 6),
                empty.key(at[0], at[1], 0).number(at[2], at[3], 6),
                empty.key(at[0], at[1], 15).key(at[2], at[3], 6),
                empty.key(at[0], at[1], at[2]).key(at[2], at[3], at[0]));
            for (Image image : before) {
                Scene scene = Scene.withOpen().present(image);
                scene.turnsBy(x -> x.copy(at[0], at[1], at[2], at[3]).due(0),
                    scene.present(image.copied(at[0], at[1], at[2], at[3])));
            }
        }
    }

    private static void copyEachIntoEach() {
        for (Image image : List.of(Image.mixed(3), Image.mixed(4))) {
            forEachSlot((node, slot) -> forEachSlot((to, toSlot) -> {
                Watched x = new Watched();
                image.writeTo(x);
                x.copy(node, slot, to, toSlot).due(0);
                image.copied(node, slot, to, toSlot).dueIn(x);
            }));
        }
    }

    private static void copyIsNoLink() {
        Watched x = new Watched();
        x.write(1, 0, 42);
        x.copy(1, 0, 2, 0).due(0);
        x.write(1, 0, 43);
        x.dueNumber(2, 0, 42);
        x.write(2, 0, 44);
        x.dueNumber(1, 0, 43);
        x.writeKey(1, 1, 9);
        x.copy(1, 1, 2, 1).due(0);
        x.keysTo(9).due(2);
        x.writeKey(1, 1, 8);
        x.dueKey(2, 1, 9);
        x.rescind(1).due(0);
        x.dueKey(2, 1, 9);
        x.copy(2, 1, 3, 3).due(0);
        x.rescind(9).due(0);
        x.dueNumber(2, 1, 0);
        x.dueNumber(3, 3, 0);
    }

    private static void rescindOnlyPresent() {
        for (int node = 0; node < Image.NODES; node++) {
            int rescinded = node;
            Image all = Image.allKeysTo(rescinded);
            Scene scene = new Scene(all, all, all);
            scene.turnsBy(x -> x.rescind(rescinded).due(0), scene.present(Image.fresh()));
        }
    }

    // Promises 6 to 8

    private static void keyOfNumber() {
        for (int value : VALUES) {
            forEachSlot((node, slot) -> {
                Watched x = new Watched();
                x.key(node, slot).due(-2);
                x.writeKey(node, slot, 15 - node).due(0);
                x.key(node, slot).due(15 - node);
                x.write(node, slot, value).due(0);
                x.key(node, slot).due(-2);
            });
        }
    }

    private static void numberOfKey() {
        for (int value : VALUES) {
            for (int target = 0; target < Image.NODES; target++) {
                Watched x = new Watched();
                x.write(5, 1, value).due(0);
                x.number(5, 1).due(value);
                x.writeKey(5, 1, target).due(0);
                x.number(5, 1).due(0);
                x.write(6, 2, value).due(0);
                x.copy(5, 1, 6, 2).due(0);
                x.number(6, 2).due(0);
                x.snapshot().due(0);
                x.settle().due(0);
                x.write(5, 1, value).due(0);
                x.crash();
                x.number(5, 1).due(0);
                x.number(6, 2).due(0);
            }
        }
    }

    private static void numberRefused() {
        Watched x = new Watched();
        forEachSlot((node, slot) -> x.write(node, slot, 1 + node).due(0));
        for (int slot = 0; slot < Image.SLOTS; slot++) {
            for (int node : new int[] {LEAST, -16, -1, 16, 17, 32, MOST}) {
                x.number(node, slot).due(0);
            }
        }
        for (int node = 0; node < Image.NODES; node++) {
            for (int slot : new int[] {LEAST, -4, -1, 4, 5, 8, MOST}) {
                x.number(node, slot).due(0);
            }
        }
    }

    /** A ring in one slot: node n has the key to n + 1, and the last of its nodes the key to node 0. */
    private static Watched ring(int length, int slot) {
        Watched x = new Watched();
        for (int node = 0; node < length; node++) {
            x.writeKey(node, slot, (node + 1) % length).due(0);
        }
        return x;
    }

    private static void followEachCount() {
        for (int slot = 0; slot < Image.SLOTS; slot++) {
            for (int length = 1; length <= Image.NODES; length++) {
                Watched x = ring(length, slot);
                for (int steps = 0; steps <= 16; steps++) {
                    for (int node = 0; node < length; node++) {
                        x.follow(node, slot, steps).due((node + steps) % length);
                    }
                }
            }
        }
    }

    private static void followIntoRing() {
        for (int length = 1; length <= Image.NODES; length++) {
            // All nodes stand in one row, and the last of them has the key to the first node of the ring.
            for (int row = 0; row + length <= Image.NODES; row++) {
                Watched x = new Watched();
                for (int node = 0; node < row + length; node++) {
                    x.writeKey(node, 2, node + 1 < row + length ? node + 1 : row).due(0);
                }
                for (int steps = 0; steps <= 18; steps++) {
                    int taken = Math.min(steps, 16);
                    x.follow(0, 2, steps).due(taken < row ? taken : row + (taken - row) % length);
                }
            }
        }
    }

    private static void followSameSlot() {
        Watched x = new Watched();
        for (int node = 0; node < Image.NODES; node++) {
            x.writeKey(node, 0, (node + 1) % 16).due(0);
            x.writeKey(node, 1, (node + 3) % 16).due(0);
            x.writeKey(node, 2, (node + 15) % 16).due(0);
        }
        for (int steps = 0; steps <= 16; steps++) {
            x.follow(7, 0, steps).due((7 + steps) % 16);
            x.follow(7, 1, steps).due((7 + 3 * steps) % 16);
            x.follow(7, 2, steps).due((7 + 15 * steps) % 16);
            x.follow(7, 3, steps).due(steps == 0 ? 7 : -2);
        }
    }

    private static void followBelowZero() {
        int[] below = {-1, -2, -3, -15, -16, -17, -32, -256, -65536, LEAST + 1, LEAST};
        for (int steps : below) {
            Watched rings = ring(16, 1);
            for (int node = 0; node < Image.NODES; node++) {
                rings.follow(node, 1, steps).due(node);
                // Where the slot holds a number, 0 steps still end at the node itself.
                rings.follow(node, 0, steps).due(node);
            }
        }
    }

    private static void followAboveSixteen() {
        int[] above = {17, 18, 19, 20, 31, 32, 33, 48, 255, 256, 257, 65535, 65536, 65537, 1 << 30, MOST - 1, MOST};
        // In a ring of 16 nodes 16 steps end where they began; in shorter ones they do not, and a ring of
        // each length tells every other count of steps from 16.
        for (int length = 1; length <= Image.NODES; length++) {
            Watched x = ring(length, 3);
            for (int steps : above) {
                for (int node = 0; node < length; node++) {
                    x.follow(node, 3, steps).due((node + 16) % length);
                }
            }
        }
        for (int steps : above) {
            Watched x = ring(16, 2);
            x.write(15, 2, 0).due(0);
            x.follow(0, 2, steps).due(-2);
            x.follow(15, 2, steps).due(-2);
        }
    }

    private static void followMeetsNumber() {
        for (int value : new int[] {0, 1, 3, 15, 16, -1, -2, LEAST, MOST}) {
            for (int length = 1; length <= Image.NODES; length++) {
                // A row of nodes, the last of which holds a number: there the way ends.
                Watched x = ring(length, 1);
                x.write(length - 1, 1, value).due(0);
                for (int steps = 0; steps <= 18; steps++) {
                    x.follow(0, 1, steps).due(steps < length ? steps : -2);
                }
                x.follow(length - 1, 1, 1).due(-2);
            }
        }
    }

    private static void followZeroSteps() {
        inAllScenes(scene -> {
            Watched x = scene.made();
            forEachSlot((node, slot) -> x.follow(node, slot, 0).due(node));
            forEachSlot((node, slot) -> x.follow(node, slot, -1).due(node));
        });
    }

    private static void followRefused() {
        int[] counts = {LEAST, -1, 0, 1, 16, 17, MOST};
        for (Watched x : List.of(new Watched(), Scene.withOpen().made())) {
            for (int steps : counts) {
                for (int wrong : new int[] {LEAST, -2, -1, 16, 17, MOST}) {
                    x.follow(wrong, 0, steps).due(-1);
                    x.follow(wrong, 3, steps).due(-1);
                }
                for (int wrong : new int[] {LEAST, -2, -1, 4, 5, MOST}) {
                    x.follow(0, wrong, steps).due(-1);
                    x.follow(15, wrong, steps).due(-1);
                }
            }
        }
    }

    // Promises 9 to 11

    private static void snapshotTaken() {
        for (Scene scene : List.of(Scene.fresh(), Scene.withoutOpen())) {
            scene.turnsBy(x -> x.snapshot().due(0), new Scene(scene.present, scene.present, scene.settled));
        }
        // A snapshot can be taken again as soon as the last one is settled or lost.
        for (Scene scene : List.of(Scene.withFirstOpen(), Scene.withOpen())) {
            scene.turnsBy(
                x -> {
                    x.settle().due(0);
                    x.snapshot().due(0);
                },
                new Scene(scene.present, scene.present, scene.open));
            scene.turnsBy(
                x -> {
                    x.crash();
                    x.snapshot().due(0);
                },
                new Scene(scene.settled, scene.settled, scene.settled));
        }
    }

    private static void snapshotRefused() {
        for (Scene scene : List.of(Scene.withFirstOpen(), Scene.withOpen())) {
            scene.unchangedBy(x -> x.snapshot().due(-1));
            scene.unchangedBy(x -> {
                x.snapshot().due(-1);
                x.snapshot().due(-1);
                x.snapshot().due(-1);
            });
            scene.turnsBy(
                x -> {
                    x.write(0, 0, 4).due(0);
                    x.snapshot().due(-1);
                    x.write(15, 3, 5).due(0);
                },
                scene.present(scene.present.number(0, 0, 4).number(15, 3, 5)));
        }
        Scene.fresh().turnsBy(
            x -> {
                x.snapshot().due(0);
                x.snapshot().due(-1);
            },
            new Scene(Image.fresh(), Image.fresh(), Image.fresh()));
    }

    private static void settleTaken() {
        for (Scene scene : List.of(Scene.withFirstOpen(), Scene.withOpen())) {
            scene.turnsBy(x -> x.settle().due(0), new Scene(scene.present, null, scene.open));
        }
    }

    private static void settleRefused() {
        for (Scene scene : List.of(Scene.fresh(), Scene.withoutOpen())) {
            scene.unchangedBy(x -> x.settle().due(-1));
            scene.unchangedBy(x -> {
                x.settle().due(-1);
                x.settle().due(-1);
                x.settle().due(-1);
            });
        }
        for (Scene scene : List.of(Scene.withFirstOpen(), Scene.withOpen())) {
            scene.turnsBy(
                x -> {
                    x.settle().due(0);
                    x.settle().due(-1);
                },
                new Scene(scene.present, null, scene.open));
            scene.turnsBy(
                x -> {
                    x.crash();
                    x.settle().due(-1);
                },
                new Scene(scene.settled, null, scene.settled));
            // A refused one must not leave a trace in the snapshot that comes next.
            scene.turnsBy(
                x -> {
                    x.settle().due(0);
                    x.settle().due(-1);
                    x.snapshot().due(0);
                },
                new Scene(scene.present, scene.present, scene.open));
        }
    }

    private static void crashCopies() {
        inAllScenes(scene -> {
            Scene crashed = new Scene(scene.settled, null, scene.settled);
            scene.turnsBy(Watched::crash, crashed);
            scene.turnsBy(
                x -> {
                    x.crash();
                    x.crash();
                },
                crashed);
            scene.turnsBy(
                x -> {
                    x.crash();
                    x.rescind(8).due(0);
                },
                crashed.present(scene.settled.rescinded(8)));
        });
    }

    private static void crashLosesOpen() {
        for (Scene scene : List.of(Scene.withFirstOpen(), Scene.withOpen())) {
            Watched x = scene.made();
            x.crash();
            x.settle().due(-1);
            x.crash();
            scene.settled.dueIn(x);
            x.snapshot().due(0);
            x.snapshot().due(-1);
            x.settle().due(0);
            x.crash();
            scene.settled.dueIn(x);
        }
        Watched y = new Watched();
        y.snapshot().due(0);
        y.crash();
        y.settle().due(-1);
        y.snapshot().due(0);
    }

    // Promise 12

    private static void idleAlone() {
        for (int turns : TURNS) {
            inAllScenes(scene -> {
                scene.unchangedBy(x -> x.idle(turns));
                scene.unchangedBy(x -> {
                    for (int time = 0; time < 20; time++) {
                        x.idle(turns);
                    }
                });
            });
        }
        inAllScenes(scene -> scene.unchangedBy(x -> {
            for (int turns : TURNS) {
                x.idle(turns);
            }
        }));
    }

    /** One run of calls that goes through all states; idle is called often times after each of them. */
    private static List<Integer> answersWithIdle(int often, int turns) {
        List<Consumer<Watched>> run = new ArrayList<>();
        for (int round = 0; round < 3; round++) {
            int value = round;
            run.add(x -> x.write(0, 0, 10 + value));
            run.add(x -> x.writeKey(1, 0, 2));
            run.add(Watched::snapshot);
            run.add(x -> x.writeKey(2, 0, 1));
            run.add(x -> x.copy(1, 0, 14 + value % 2, 3));
            run.add(Watched::snapshot);
            run.add(x -> x.rescind(2));
            run.add(Watched::settle);
            run.add(x -> x.write(1, 1, 20 + value));
            run.add(Watched::settle);
            run.add(x -> x.keysTo(2));
            run.add(x -> x.key(1, 0));
            run.add(Watched::crash);
            run.add(x -> x.key(1, 0));
            run.add(x -> x.number(0, 0));
            run.add(x -> x.number(1, 1));
            run.add(x -> x.follow(1, 0, 2));
            run.add(x -> x.writeKey(2, 0, 1));
            run.add(x -> x.follow(1, 0, 16));
            run.add(x -> x.keysTo(2));
            run.add(Watched::snapshot);
            run.add(x -> x.write(0, 0, 30 + value));
            run.add(Watched::crash);
            run.add(Watched::settle);
            run.add(x -> x.number(0, 0));
            run.add(x -> x.write(16, 0, 1));
        }
        List<Integer> answers = new ArrayList<>();
        Watched x = new Watched();
        for (Consumer<Watched> call : run) {
            call.accept(x);
            answers.add(x.answer());
            for (int time = 0; time < often; time++) {
                x.idle(turns);
            }
        }
        return answers;
    }

    private static void idleBetween() {
        List<Integer> due = answersWithIdle(0, 0);
        for (int turns : TURNS) {
            for (int often = 1; often <= 5; often++) {
                List<Integer> answers = answersWithIdle(often, turns);
                if (!answers.equals(due)) {
                    Report.wrong("with idle(" + turns + ") " + often + " times after each call the answers are "
                        + answers + ", due are " + due);
                }
            }
        }
    }

    private static void idleOften() {
        for (int turns : TURNS) {
            Watched x = new Watched();
            x.write(0, 0, 1).due(0);
            x.writeKey(15, 3, 9).due(0);
            x.snapshot().due(0);
            x.write(0, 0, 2).due(0);
            idleTimes(x, turns, 240);
            x.snapshot().due(-1);
            x.rescind(9).due(0);
            x.settle().due(0);
            idleTimes(x, turns, 240);
            x.settle().due(-1);
            x.dueNumber(0, 0, 2);
            x.dueNumber(15, 3, 0);
            x.crash();
            x.dueNumber(0, 0, 1);
            x.dueKey(15, 3, 9);
            x.keysTo(9).due(1);
        }
    }

    private static void idleTimes(Watched x, int turns, int often) {
        for (int time = 0; time < often; time++) {
            x.idle(turns);
        }
    }

    // Promise 13

    private static void keysToNone() {
        Watched x = new Watched();
        Image.fresh().dueKeysIn(x);
        // Numbers that are node numbers are no keys.
        forEachSlot((node, slot) -> x.write(node, slot, (node + slot) % 17).due(0));
        Image.fresh().dueKeysIn(x);
        Watched y = new Watched();
        Image.allKeysTo(6).writeTo(y);
        y.rescind(6).due(0);
        Image.fresh().dueKeysIn(y);
    }

    private static void keysToAll() {
        for (int target = 0; target < Image.NODES; target++) {
            Watched x = new Watched();
            int[] count = {0};
            int to = target;
            forEachSlot((node, slot) -> {
                x.keysTo(to).due(count[0]);
                x.writeKey(node, slot, to).due(0);
                count[0]++;
            });
            Image.allKeysTo(target).dueKeysIn(x);
            x.keysTo(target).due(64);
            // From full to empty again, slot by slot.
            forEachSlot((node, slot) -> {
                x.write(node, slot, to).due(0);
                count[0]--;
                x.keysTo(to).due(count[0]);
            });
        }
    }

    private static void keysToOnlyPresent() {
        for (int target = 0; target < Image.NODES; target++) {
            int to = target;
            Image all = Image.allKeysTo(target);
            Watched x = new Scene(Image.fresh(), all, all).made();
            Image.fresh().dueKeysIn(x);
            x.settle().due(0);
            Image.fresh().dueKeysIn(x);
            x.crash();
            all.dueKeysIn(x);
            Watched y = new Scene(all, Image.fresh(), Image.fresh()).made();
            y.keysTo(to).due(64);
            y.settle().due(0);
            y.keysTo(to).due(64);
            y.crash();
            y.keysTo(to).due(0);
        }
        inAllScenes(scene -> scene.present.dueKeysIn(scene.made()));
    }

    private static void keysToRefused() {
        int[] noNodes = {LEAST, LEAST + 1, -65536, -17, -16, -3, -2, -1, 16, 17, 31, 32, 64, 65536, MOST - 1, MOST};
        inAllScenes(scene -> scene.unchangedBy(x -> {
            for (int node : noNodes) {
                x.keysTo(node).due(-1);
            }
        }));
        // Neither a store full of numbers nor one full of keys makes a wrong node number count.
        for (Image image : List.of(Image.fresh(), Image.allKeysTo(0), Image.allKeysTo(15))) {
            Watched x = new Watched();
            image.writeTo(x);
            for (int node : noNodes) {
                x.keysTo(node).due(-1);
            }
        }
    }
}
