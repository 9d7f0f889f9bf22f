import java.util.List;
import java.util.function.Consumer;

/**
 * "An object is used for at most 512 calls after it has been made": they may all be of one kind. Each test here
 * makes one call, or a short round of calls, again and again for as long as the object may be used, so that
 * nothing that a program counts, numbers or piles up from call to call runs out before the 512 calls do.
 */
public final class LongRunTest {
    /** So few slots are written and looked at that most of the 512 calls are left for the rounds. */
    private static final int[][] PLACES = {{0, 0}, {15, 3}, {5, 1}, {9, 2}};
    private static final int CALLS_OF_ONE_LOOK = 2 * PLACES.length + 2;
    /** The longest of the three endings: three looks and 11 calls between them. */
    private static final int CALLS_AT_THE_END = 3 * CALLS_OF_ONE_LOOK + 11;

    private static final Image SETTLED = image(5, 9);
    private static final Image OPEN = image(6, 8);
    private static final Image PRESENT = image(7, 4);
    private static final Scene WITH_OPEN = new Scene(PRESENT, OPEN, SETTLED);
    private static final Scene WITHOUT_OPEN = new Scene(PRESENT, null, SETTLED);
    private static final List<Scene> BOTH = List.of(WITH_OPEN, WITHOUT_OPEN);

    public static void main(String[] args) {
        test("reading", LongRunTest::reading);
        test("idle", LongRunTest::idle);
        test("refused calls", LongRunTest::refused);
        test("writing the same", LongRunTest::writingTheSame);
        test("writing something else", LongRunTest::writingSomethingElse);
        test("rescinding", LongRunTest::rescinding);
        test("snapshots and settling", LongRunTest::snapshots);
        test("crashes", LongRunTest::crashes);
        test("all of them by turns", LongRunTest::allByTurns);
        test("up to the last call", LongRunTest::upToTheLastCall);
        Report.test("LANGUAGE.md, rule 7: No call may ever throw or fail to end (after the 512th call, too)",
            LongRunTest::beyondTheLastCall);
        Report.end();
    }

    private static void test(String calls, Runnable body) {
        Report.test("What it is: An object is used for at most 512 calls: " + calls + ", again and again", body);
    }

    private static void reading() {
        for (Scene scene : BOTH) {
            unchangedBy(scene, 1, x -> x.key(15, 3).due(4));
            unchangedBy(scene, 1, x -> x.number(0, 0).due(7));
            unchangedBy(scene, 1, x -> x.follow(9, 2, 1).due(5));
            unchangedBy(scene, 1, x -> x.follow(9, 2, 16).due(-2));
            unchangedBy(scene, 1, x -> x.keysTo(4).due(1));
        }
    }

    private static void idle() {
        for (Scene scene : BOTH) {
            for (int turns : new int[] {Integer.MIN_VALUE, -1, 0, 1, 2, 64, Integer.MAX_VALUE}) {
                unchangedBy(scene, 1, x -> x.idle(turns));
            }
        }
    }

    private static void refused() {
        for (Scene scene : BOTH) {
            unchangedBy(scene, 1, x -> x.write(16, 0, 1).due(-1));
            unchangedBy(scene, 1, x -> x.writeKey(0, 4, 1).due(-1));
            unchangedBy(scene, 1, x -> x.writeKey(0, 0, 16).due(-1));
            unchangedBy(scene, 1, x -> x.copy(15, 3, -1, 0).due(-1));
            unchangedBy(scene, 1, x -> x.rescind(16).due(-1));
            unchangedBy(scene, 1, x -> x.key(-1, 0).due(-1));
            unchangedBy(scene, 1, x -> x.number(0, -1).due(0));
            unchangedBy(scene, 1, x -> x.follow(16, 0, 1).due(-1));
            unchangedBy(scene, 1, x -> x.keysTo(-1).due(-1));
        }
        unchangedBy(WITH_OPEN, 1, x -> x.snapshot().due(-1));
        unchangedBy(WITHOUT_OPEN, 1, x -> x.settle().due(-1));
    }

    private static void writingTheSame() {
        for (Scene scene : BOTH) {
            turnsBy(scene, 1, x -> x.write(0, 0, 3).due(0), scene.present(PRESENT.number(0, 0, 3)));
            turnsBy(scene, 1, x -> x.writeKey(15, 3, 9).due(0), scene.present(PRESENT.key(15, 3, 9)));
            turnsBy(scene, 1, x -> x.copy(0, 0, 15, 3).due(0), scene.present(PRESENT.copied(0, 0, 15, 3)));
            turnsBy(scene, 1, x -> x.copy(9, 2, 0, 0).due(0), scene.present(PRESENT.copied(9, 2, 0, 0)));
        }
    }

    /** The last call of each round brings back what the slot held before. */
    private static void writingSomethingElse() {
        for (Scene scene : BOTH) {
            unchangedBy(scene, 3, x -> {
                int value = x.calls();
                x.write(0, 0, value).due(0);
                x.number(0, 0).due(value);
                x.write(0, 0, 7).due(0);
            });
            unchangedBy(scene, 3, x -> {
                int target = x.calls() % Image.NODES;
                x.writeKey(15, 3, target).due(0);
                x.key(15, 3).due(target);
                x.writeKey(15, 3, 4).due(0);
            });
            unchangedBy(scene, 3, x -> {
                x.copy(9, 2, 0, 0).due(0);
                x.keysTo(5).due(2);
                x.write(0, 0, 7).due(0);
            });
            unchangedBy(scene, 2, x -> {
                x.write(15, 3, 4).due(0);
                x.writeKey(15, 3, 4).due(0);
            });
        }
    }

    private static void rescinding() {
        for (Scene scene : BOTH) {
            turnsBy(scene, 1, x -> x.rescind(4).due(0), scene.present(PRESENT.rescinded(4)));
            turnsBy(scene, 1, x -> x.rescind(0).due(0), scene.present(PRESENT.rescinded(0)));
            unchangedBy(scene, 2, x -> {
                x.rescind(4).due(0);
                x.writeKey(15, 3, 4).due(0);
            });
            unchangedBy(scene, 2, x -> {
                x.rescind(0).due(0);
                x.write(0, 0, 7).due(0);
            });
        }
    }

    private static void snapshots() {
        turnsBy(WITHOUT_OPEN, 2,
            x -> {
                x.snapshot().due(0);
                x.settle().due(0);
            },
            new Scene(PRESENT, null, PRESENT));
        turnsBy(WITH_OPEN, 2,
            x -> {
                x.settle().due(0);
                x.snapshot().due(0);
            },
            new Scene(PRESENT, PRESENT, PRESENT));
        turnsBy(WITHOUT_OPEN, 4,
            x -> {
                x.snapshot().due(0);
                x.snapshot().due(-1);
                x.settle().due(0);
                x.settle().due(-1);
            },
            new Scene(PRESENT, null, PRESENT));
        turnsBy(WITHOUT_OPEN, 4,
            x -> {
                x.write(0, 0, 8).due(0);
                x.snapshot().due(0);
                x.write(0, 0, 7).due(0);
                x.settle().due(0);
            },
            new Scene(PRESENT, null, PRESENT.number(0, 0, 8)));
    }

    private static void crashes() {
        Scene crashed = new Scene(SETTLED, null, SETTLED);
        for (Scene scene : BOTH) {
            turnsBy(scene, 1, Watched::crash, crashed);
            turnsBy(scene, 2,
                x -> {
                    x.write(15, 3, 1).due(0);
                    x.crash();
                },
                crashed);
        }
        turnsBy(WITHOUT_OPEN, 2,
            x -> {
                x.snapshot().due(0);
                x.crash();
            },
            crashed);
    }

    private static void allByTurns() {
        turnsBy(WITHOUT_OPEN, 15,
            x -> {
                int value = x.calls();
                int target = value % Image.NODES;
                x.write(0, 0, value).due(0);
                x.writeKey(15, 3, target).due(0);
                x.snapshot().due(0);
                x.copy(0, 0, 15, 3).due(0);
                x.rescind(0).due(0);
                x.settle().due(0);
                x.number(15, 3).due(value);
                x.crash();
                x.number(0, 0).due(value);
                x.key(15, 3).due(target);
                x.write(0, 0, 5).due(0);
                x.writeKey(15, 3, 9).due(0);
                x.snapshot().due(0);
                x.settle().due(0);
                x.crash();
            },
            new Scene(SETTLED, null, SETTLED));
    }

    /** No look at the end: the answers of the rounds themselves are looked at, 512 calls long. */
    private static void upToTheLastCall() {
        upToTheLastCall(2, x -> {
            x.snapshot().due(0);
            x.settle().due(0);
        });
        upToTheLastCall(2, x -> {
            x.snapshot().due(0);
            x.crash();
        });
        upToTheLastCall(2, x -> {
            int value = x.calls();
            x.write(15, 3, value).due(0);
            x.number(15, 3).due(value);
        });
        upToTheLastCall(2, x -> {
            int target = x.calls() % Image.NODES;
            x.writeKey(0, 0, target).due(0);
            x.follow(0, 0, 1).due(target);
        });
        upToTheLastCall(4, x -> {
            x.writeKey(0, 0, 7).due(0);
            x.copy(0, 0, 1, 1).due(0);
            x.rescind(0).due(0);
            x.keysTo(7).due(1);
        });
        upToTheLastCall(4, x -> {
            x.writeKey(0, 0, 7).due(0);
            x.keysTo(7).due(1);
            x.rescind(7).due(0);
            x.keysTo(7).due(0);
        });
    }

    private static void upToTheLastCall(int callsOfARound, Consumer<Watched> round) {
        repeat(new Watched(), callsOfARound, Watched.MOST_CALLS, round);
    }

    /** What these calls answer is free; one that throws ends the test as failed. */
    private static void beyondTheLastCall() {
        CheckpointedStore x = new CheckpointedStore();
        for (int round = 0; round < 100000; round++) {
            int node = round % 18 - 1;
            int slot = round / 18 % 6 - 1;
            x.write(node, slot, round);
            x.snapshot();
            x.writeKey(slot, slot, node);
            x.copy(node, slot, slot, slot);
            x.follow(node, slot, round);
            x.key(node, slot);
            x.number(node, slot);
            x.keysTo(node);
            x.idle(round);
            x.settle();
            if (round % 3 == 0) {
                x.rescind(node);
                x.crash();
            }
        }
    }

    /** No round writes the last two slots: what they hold has to last through all of them. */
    private static Image image(int number, int target) {
        return Image.fresh().number(0, 0, number).key(15, 3, target).number(5, 1, -7).key(9, 2, 5);
    }

    /** Looking at the settled store loses the open snapshot: each ending has an object of its own. */
    private static void turnsBy(Scene scene, int callsOfARound, Consumer<Watched> round, Scene due) {
        endsWith(scene, callsOfARound, round, x -> {
            look(x, due.present);
            x.crash();
            look(x, due.settled);
        });
        endsWith(scene, callsOfARound, round, x -> {
            look(x, due.present);
            x.settle().due(due.open == null ? -1 : 0);
            x.crash();
            look(x, due.open == null ? due.settled : due.open);
        });
        endsWith(scene, callsOfARound, round, x -> allStillWork(x, due));
    }

    private static void endsWith(Scene scene, int callsOfARound, Consumer<Watched> round, Consumer<Watched> ending) {
        Watched x = made(scene);
        repeat(x, callsOfARound, Watched.MOST_CALLS - CALLS_AT_THE_END, round);
        ending.accept(x);
    }

    /** A call may have failed unseen in rounds that bring back what was there: each is made here once more. */
    private static void allStillWork(Watched x, Scene due) {
        Image written = due.present.number(0, 0, 31).key(15, 3, 12).copied(15, 3, 5, 1).copied(0, 0, 9, 2);
        x.write(0, 0, 31).due(0);
        x.writeKey(15, 3, 12).due(0);
        x.copy(15, 3, 5, 1).due(0);
        x.copy(0, 0, 9, 2).due(0);
        look(x, written);
        if (due.open != null) {
            x.settle().due(0);
        }
        x.snapshot().due(0);
        x.idle(1);
        x.follow(5, 1, 1).due(12);
        x.rescind(12).due(0);
        look(x, written.rescinded(12));
        x.settle().due(0);
        x.crash();
        look(x, written);
    }

    private static void unchangedBy(Scene scene, int callsOfARound, Consumer<Watched> round) {
        turnsBy(scene, callsOfARound, round, scene);
    }

    private static void repeat(Watched x, int callsOfARound, int mostCalls, Consumer<Watched> round) {
        while (x.calls() + callsOfARound <= mostCalls) {
            round.accept(x);
        }
    }

    private static Watched made(Scene scene) {
        Watched x = new Watched();
        write(x, scene.settled);
        x.snapshot().due(0);
        x.settle().due(0);
        if (scene.open != null) {
            write(x, scene.open);
            x.snapshot().due(0);
        }
        write(x, scene.present);
        return x;
    }

    private static void write(Watched x, Image image) {
        for (int[] at : PLACES) {
            image.writeTo(x, at[0], at[1]);
        }
    }

    private static void look(Watched x, Image due) {
        for (int[] at : PLACES) {
            due.dueIn(x, at[0], at[1]);
        }
        x.keysTo(5).due(due.keysTo(5));
        x.keysTo(12).due(due.keysTo(12));
    }
}
