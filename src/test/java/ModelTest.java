import java.util.Arrays;
import java.util.HashMap;
import java.util.Map;

/**
 * Long mixed runs of calls against a plain model of the document: a store is a map from a slot's name to
 * "key n" or "number n", and a slot without an entry holds the number 0. The runs come from a fixed
 * sequence, so that every run of the test makes the same calls.
 */
public final class ModelTest {
    private static final int RUNS = 4000;
    private static final int CALLS = 512;
    private static final int CALLS_BEFORE_LOOK = 250;
    private static final int[] EDGES = {Integer.MIN_VALUE, -2, -1, 16, 17, 64, Integer.MAX_VALUE};

    private final CheckpointedStore real = new CheckpointedStore();
    private Map<String, String> present = new HashMap<>();
    private Map<String, String> open = null;
    private Map<String, String> settled = new HashMap<>();
    private final int nodes;
    private final boolean seldomCheckpoints;
    private long seed;

    private ModelTest(int run) {
        seed = run * 7919L + 1;
        // Runs on few nodes make keys meet more often.
        nodes = run % 2 == 0 ? 16 : 3;
        // Where snapshots, settling and crashes are seldom, many writings stand between them.
        seldomCheckpoints = run / 2 % 2 == 1;
    }

    public static void main(String[] args) {
        int wrong = 0;
        for (int run = 0; run < RUNS && wrong < 20; run++) {
            String fault = new ModelTest(run).run(run / 4 % 2 == 0 ? CALLS : CALLS_BEFORE_LOOK);
            if (fault != null) {
                wrong++;
                System.out.println("run " + run + ", " + fault);
            }
        }
        System.out.println(wrong == 0 ? "all answers are as due" : wrong + " runs are not as due");
        if (wrong != 0) {
            System.exit(1);
        }
    }

    private String run(int calls) {
        for (int call = 0; call < calls; call++) {
            String fault = nextCall();
            if (fault != null) {
                return "call " + call + ": " + fault;
            }
        }
        return calls == CALLS ? null : lookAtTheEnd();
    }

    /** The present store, and then what a crash leaves, every slot of them, within 512 calls in all. */
    private String lookAtTheEnd() {
        String fault = lookAtPresent();
        if (fault == null && pick(2) == 0) {
            fault = fault("settle", real.settle(), settle());
        }
        if (fault == null) {
            crash();
            fault = lookAtPresent();
        }
        return fault == null ? null : "at the end: " + fault;
    }

    private String lookAtPresent() {
        String fault = null;
        for (int cell = 0; cell < 64 && fault == null; cell++) {
            int node = cell / 4;
            int slot = cell % 4;
            fault = fault("key", real.key(node, slot), key(node, slot), node, slot);
            if (fault == null) {
                fault = fault("number", real.number(node, slot), number(node, slot), node, slot);
            }
        }
        return fault;
    }

    private int pick(int bound) {
        seed = seed * 6364136223846793005L + 1442695040888963407L;
        return (int) ((seed >>> 33) % bound);
    }

    private int pickNode() {
        return pick(25) == 0 ? EDGES[pick(EDGES.length)] : pick(nodes);
    }

    private int pickSlot() {
        return pick(25) == 0 ? EDGES[pick(EDGES.length)] : pick(3) == 0 ? pick(6) - 1 : pick(2) * 3;
    }

    private int pickValue() {
        return pick(4) == 0 ? EDGES[pick(EDGES.length)] : pick(20);
    }

    private String nextCall() {
        int node = pickNode();
        int slot = pickSlot();
        switch (pick(16)) {
            case 0: case 1: {
                int value = pickValue();
                return fault("write", real.write(node, slot, value), put(node, slot, "number " + value), node, slot, value);
            }
            case 2: case 3: case 4: {
                int target = pickNode();
                int want = isNode(target) ? put(node, slot, "key " + target) : -1;
                return fault("writeKey", real.writeKey(node, slot, target), want, node, slot, target);
            }
            case 5: {
                int to = pickNode();
                int toSlot = pickSlot();
                int want = isSlot(node, slot) ? put(to, toSlot, held(node, slot)) : -1;
                return fault("copy", real.copy(node, slot, to, toSlot), want, node, slot, to, toSlot);
            }
            case 6:
                return pick(3) == 0 ? fault("rescind", real.rescind(node), rescind(node), node) : null;
            case 7: case 8:
                return fault("key", real.key(node, slot), key(node, slot), node, slot);
            case 9: case 10:
                return fault("number", real.number(node, slot), number(node, slot), node, slot);
            case 11: {
                int steps = pick(24) - 3;
                return fault("follow", real.follow(node, slot, steps), follow(node, slot, steps), node, slot, steps);
            }
            case 12: case 13: case 14:
                return checkpointOrIdle();
            default:
                return fault("keysTo", real.keysTo(node), keysTo(node), node);
        }
    }

    private static String fault(String call, int got, int want, int... arguments) {
        if (got == want) {
            return null;
        }
        return call + Arrays.toString(arguments) + " answered " + got + ", due is " + want;
    }

    private static boolean isNode(int node) {
        return 0 <= node && node <= 15;
    }

    private static boolean isSlot(int node, int slot) {
        return isNode(node) && 0 <= slot && slot <= 3;
    }

    private String held(int node, int slot) {
        return present.getOrDefault(node + "." + slot, "number 0");
    }

    private int put(int node, int slot, String content) {
        if (!isSlot(node, slot)) {
            return -1;
        }
        present.put(node + "." + slot, content);
        return 0;
    }

    private int rescind(int node) {
        if (!isNode(node)) {
            return -1;
        }
        present.entrySet().removeIf(e -> e.getKey().startsWith(node + ".") || e.getValue().equals("key " + node));
        return 0;
    }

    private int key(int node, int slot) {
        if (!isSlot(node, slot)) {
            return -1;
        }
        String content = held(node, slot);
        return content.startsWith("key ") ? Integer.parseInt(content.substring(4)) : -2;
    }

    private int number(int node, int slot) {
        if (!isSlot(node, slot)) {
            return 0;
        }
        String content = held(node, slot);
        return content.startsWith("number ") ? Integer.parseInt(content.substring(7)) : 0;
    }

    private int follow(int node, int slot, int steps) {
        if (!isSlot(node, slot)) {
            return -1;
        }
        int reached = node;
        for (int left = Math.max(0, Math.min(16, steps)); left > 0 && reached != -2; left--) {
            reached = key(reached, slot);
        }
        return reached;
    }

    private int snapshot() {
        if (open != null) {
            return -1;
        }
        open = new HashMap<>(present);
        return 0;
    }

    private int settle() {
        if (open == null) {
            return -1;
        }
        settled = open;
        open = null;
        return 0;
    }

    private String checkpointOrIdle() {
        int kind = pick(seldomCheckpoints ? 45 : 9);
        if (kind < 3) {
            return fault("snapshot", real.snapshot(), snapshot());
        }
        if (kind < 6) {
            return fault("settle", real.settle(), settle());
        }
        if (kind == 6) {
            crash();
        } else {
            real.idle(pickValue());
        }
        return null;
    }

    private void crash() {
        real.crash();
        present = new HashMap<>(settled);
        open = null;
    }

    private int keysTo(int node) {
        if (!isNode(node)) {
            return -1;
        }
        return (int) present.values().stream().filter(("key " + node)::equals).count();
    }
}
