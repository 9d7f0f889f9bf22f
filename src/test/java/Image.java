import java.util.Arrays;

/** What the 64 slots of one store hold; it does not change, each change makes another image. */
final class Image {
    static final int NODES = 16;
    static final int SLOTS = 4;
    private static final int NUMBER = -2;

    private final int[] keys;
    private final int[] numbers;

    private Image(int[] keys, int[] numbers) {
        this.keys = keys;
        this.numbers = numbers;
    }

    static Image fresh() {
        Image image = new Image(new int[NODES * SLOTS], new int[NODES * SLOTS]);
        Arrays.fill(image.keys, NUMBER);
        return image;
    }

    /**
     * Numbers and keys by turns, each node the target of two keys. Three such images in a row differ from each
     * other and from the fresh one in every slot, so that no slot can come from a wrong store unseen.
     */
    static Image mixed(int image) {
        Image made = fresh();
        for (int cell = 0; cell < NODES * SLOTS; cell++) {
            if ((cell + image) % 2 == 0) {
                made.keys[cell] = (cell / 2 * 7 + image * 5) % NODES;
            } else {
                made.numbers[cell] = image * 1000 + cell;
            }
        }
        return made;
    }

    static Image allKeysTo(int target) {
        Image made = fresh();
        Arrays.fill(made.keys, target);
        return made;
    }

    Image number(int node, int slot, int value) {
        return with(node, slot, NUMBER, value);
    }

    Image key(int node, int slot, int target) {
        return with(node, slot, target, 0);
    }

    Image copied(int node, int slot, int to, int toSlot) {
        int from = node * SLOTS + slot;
        return with(to, toSlot, keys[from], numbers[from]);
    }

    Image rescinded(int node) {
        Image made = this;
        for (int at = 0; at < NODES; at++) {
            for (int slot = 0; slot < SLOTS; slot++) {
                if (at == node || keyIn(at, slot) == node) {
                    made = made.number(at, slot, 0);
                }
            }
        }
        return made;
    }

    boolean isFresh() {
        Image fresh = fresh();
        return Arrays.equals(keys, fresh.keys) && Arrays.equals(numbers, fresh.numbers);
    }

    int keyIn(int node, int slot) {
        return keys[node * SLOTS + slot];
    }

    int numberIn(int node, int slot) {
        return numbers[node * SLOTS + slot];
    }

    int keysTo(int node) {
        int count = 0;
        for (int key : keys) {
            count += key == node ? 1 : 0;
        }
        return count;
    }

    /** 64 calls. */
    void writeTo(Watched x) {
        for (int node = 0; node < NODES; node++) {
            for (int slot = 0; slot < SLOTS; slot++) {
                writeTo(x, node, slot);
            }
        }
    }

    void writeTo(Watched x, int node, int slot) {
        if (keyIn(node, slot) == NUMBER) {
            x.write(node, slot, numberIn(node, slot)).due(0);
        } else {
            x.writeKey(node, slot, keyIn(node, slot)).due(0);
        }
    }

    /** 128 calls. */
    void dueIn(Watched x) {
        for (int node = 0; node < NODES; node++) {
            for (int slot = 0; slot < SLOTS; slot++) {
                dueIn(x, node, slot);
            }
        }
    }

    /** 2 calls. */
    void dueIn(Watched x, int node, int slot) {
        x.key(node, slot).due(keyIn(node, slot));
        x.number(node, slot).due(numberIn(node, slot));
    }

    /** 16 calls. */
    void dueKeysIn(Watched x) {
        for (int node = 0; node < NODES; node++) {
            x.keysTo(node).due(keysTo(node));
        }
    }

    private Image with(int node, int slot, int key, int number) {
        Image made = new Image(keys.clone(), numbers.clone());
        made.keys[node * SLOTS + slot] = key;
        made.numbers[node * SLOTS + slot] = number;
        return made;
    }
}
