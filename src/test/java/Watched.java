import java.util.Arrays;

/** A new CheckpointedStore that remembers its last call, so that a wrong answer is told with its call. */
final class Watched {
    static final int MOST_CALLS = 512;

    private final CheckpointedStore store = new CheckpointedStore();
    private int calls = 0;
    private String name;
    private int[] arguments;
    private int answer;

    Watched write(int node, int slot, int value) {
        return called("write", store.write(node, slot, value), node, slot, value);
    }

    Watched writeKey(int node, int slot, int target) {
        return called("writeKey", store.writeKey(node, slot, target), node, slot, target);
    }

    Watched copy(int node, int slot, int to, int toSlot) {
        return called("copy", store.copy(node, slot, to, toSlot), node, slot, to, toSlot);
    }

    Watched rescind(int node) {
        return called("rescind", store.rescind(node), node);
    }

    Watched key(int node, int slot) {
        return called("key", store.key(node, slot), node, slot);
    }

    Watched number(int node, int slot) {
        return called("number", store.number(node, slot), node, slot);
    }

    Watched follow(int node, int slot, int steps) {
        return called("follow", store.follow(node, slot, steps), node, slot, steps);
    }

    Watched snapshot() {
        return called("snapshot", store.snapshot());
    }

    Watched settle() {
        return called("settle", store.settle());
    }

    Watched keysTo(int node) {
        return called("keysTo", store.keysTo(node), node);
    }

    void crash() {
        store.crash();
        called("crash", 0);
    }

    void idle(int turns) {
        store.idle(turns);
        called("idle", 0, turns);
    }

    int answer() {
        return answer;
    }

    int calls() {
        return calls;
    }

    void due(int want) {
        if (answer != want) {
            Report.wrong("call " + calls + ": " + name + Arrays.toString(arguments)
                + " answered " + answer + ", due is " + want);
        }
    }

    void dueNumber(int node, int slot, int value) {
        key(node, slot).due(-2);
        number(node, slot).due(value);
    }

    void dueKey(int node, int slot, int target) {
        key(node, slot).due(target);
        number(node, slot).due(0);
    }

    private Watched called(String call, int got, int... with) {
        calls++;
        name = call;
        arguments = with;
        answer = got;
        // What the document leaves free must not be tested: such a test is itself at fault.
        if (calls > MOST_CALLS) {
            throw new IllegalStateException("the test makes more than " + MOST_CALLS + " calls on one object");
        }
        return this;
    }
}
