import java.util.function.Consumer;

/** What the three stores of an object hold; open is null where no snapshot is open. */
final class Scene {
    /** So many calls can stand between a scene and the look at all three stores within 512 calls. */
    static final int ROOM = 40;

    final Image present;
    final Image open;
    final Image settled;

    Scene(Image present, Image open, Image settled) {
        this.present = present;
        this.open = open;
        this.settled = settled;
    }

    static Scene fresh() {
        return new Scene(Image.fresh(), null, Image.fresh());
    }

    static Scene withOpen() {
        return new Scene(Image.mixed(3), Image.mixed(2), Image.mixed(1));
    }

    static Scene withoutOpen() {
        return new Scene(Image.mixed(3), null, Image.mixed(1));
    }

    static Scene withFirstOpen() {
        return new Scene(Image.mixed(3), Image.mixed(2), Image.fresh());
    }

    /** Where a store of withOpen has a key, its store here has a number, and the other way round. */
    static Scene withOpenTurned() {
        return new Scene(Image.mixed(4), Image.mixed(5), Image.mixed(6));
    }

    static Scene[] all() {
        return new Scene[] {fresh(), withoutOpen(), withFirstOpen(), withOpen(), withOpenTurned()};
    }

    Scene present(Image other) {
        return new Scene(other, open, settled);
    }

    /** At most 195 calls; none for the fresh scene, so that it is a new object indeed. */
    Watched made() {
        Watched x = new Watched();
        if (!settled.isFresh()) {
            settled.writeTo(x);
            x.snapshot().due(0);
            x.settle().due(0);
        }
        if (open != null) {
            open.writeTo(x);
            x.snapshot().due(0);
        }
        if (x.calls() > 0 || !present.isFresh()) {
            present.writeTo(x);
        }
        return x;
    }

    void unchangedBy(Consumer<Watched> calls) {
        turnsBy(calls, this);
    }

    /**
     * Looking at the settled store loses the open snapshot, and looking at the open one replaces the settled
     * store: the same calls are made on two objects, one for each look.
     */
    void turnsBy(Consumer<Watched> calls, Scene want) {
        Watched x = made();
        calls.accept(x);
        want.present.dueIn(x);
        want.present.dueKeysIn(x);
        x.crash();
        want.settled.dueIn(x);

        Watched y = made();
        calls.accept(y);
        y.settle().due(want.open == null ? -1 : 0);
        want.present.dueIn(y);
        y.crash();
        Image last = want.open == null ? want.settled : want.open;
        last.dueIn(y);
        last.dueKeysIn(y);
    }
}
