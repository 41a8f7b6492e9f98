/** "Of several exceptions the one that the call names first is thrown", and nothing but the tape changes. */
public final class ThrowOrderTest {
    private static final Class<IllegalStateException> STATE = IllegalStateException.class;
    private static final Class<IllegalArgumentException> WRONG = IllegalArgumentException.class;
    private static final Class<UnsupportedOperationException> FULL = UnsupportedOperationException.class;

    /** A store without ROOM for a RECORD; not OPEN if so told. */
    private static Keep full(boolean isOpen) {
        Keep k = Keep.formatted(128, 128);
        k.fill(128 - 14);
        k.x.sync();
        k.get("k");
        if (!isOpen) k.x.crash(0);
        return k;
    }

    private static void put() {
        Keep k = full(true);
        k.feed("kv");
        k.refuses("a right put, FULL", FULL, 0, () -> k.x.put(1));
        k.feed("kv");
        k.refuses("a wrong put, FULL", WRONG, 0, () -> k.x.put(0));
        k.feed("kv");
        k.refuses("a put of more than the tape, FULL", WRONG, 0, () -> k.x.put(3));
        k.feed("k".repeat(66));
        k.refuses("a put of 65 bytes, FULL", WRONG, 0, () -> k.x.put(1));
        Keep closed = full(false);
        closed.feed("kv");
        closed.refuses("a right put, FULL, not OPEN", STATE, 0, () -> closed.x.put(1));
        closed.feed("kv");
        closed.refuses("a wrong put, FULL, not OPEN", STATE, 0, () -> closed.x.put(0));
    }

    private static void remove() {
        Keep k = full(true);
        k.feed("k");
        k.refuses("a right remove, FULL", FULL, 0, () -> k.x.remove() ? 1 : 0);
        k.refuses("remove of no bytes, FULL", WRONG, 0, () -> k.x.remove() ? 1 : 0);
        k.feed("k".repeat(17));
        k.refuses("remove of 17 bytes, FULL", WRONG, 0, () -> k.x.remove() ? 1 : 0);
        k.feed("l");
        Check.same("remove of what is not there, FULL", k.x.remove() ? 1 : 0, 0);
        Keep closed = full(false);
        closed.feed("k");
        closed.refuses("a right remove, FULL, not OPEN", STATE, 0, () -> closed.x.remove() ? 1 : 0);
        closed.refuses("remove of no bytes, FULL, not OPEN", STATE, 0, () -> closed.x.remove() ? 1 : 0);
    }

    private static void feed() {
        Keep k = full(true);
        k.feed("x".repeat(80));
        k.refuses("feed(1) at 80 bytes", FULL, 80, () -> k.x.feed(1, 0, 0));
        k.refuses("feed(0) at 80 bytes", WRONG, 80, () -> k.x.feed(0, 0, 0));
        k.refuses("feed(17) at 80 bytes", WRONG, 80, () -> k.x.feed(17, 0, 0));
    }

    private static void crash() {
        Keep k = full(true);
        k.refuses("crash(1) of no UNSYNCED byte", WRONG, 0, () -> k.x.crash(1));
        k.refuses("crash(-1)", WRONG, 0, () -> k.x.crash(-1));
        Keep closed = full(false);
        closed.refuses("crash(1), not OPEN", STATE, 0, () -> closed.x.crash(1));
        closed.refuses("crash(-1), not OPEN", STATE, 0, () -> closed.x.crash(-1));
    }

    private static void merge() {
        Keep k = full(true);
        k.refuses("mergeBegin() without ROOM", FULL, 0, k.x::mergeBegin);
        k.refuses("mergeStep(0) without a MERGE", STATE, 0, () -> k.x.mergeStep(0));
        Keep closed = full(false);
        closed.refuses("mergeBegin() without ROOM, not OPEN", STATE, 0, closed.x::mergeBegin);
        closed.refuses("mergeStep(0), not OPEN", STATE, 0, () -> closed.x.mergeStep(0));
        Keep merging = Keep.formatted(79 + 79 + 23 + 12, 128);
        merging.fill(79);
        merging.x.mergeBegin();
        merging.x.mergeStep(1);
        merging.refuses("mergeBegin() in a MERGE without ROOM for another", STATE, 0, merging.x::mergeBegin);
        merging.refuses("mergeStep(0) in a MERGE", WRONG, 0, () -> merging.x.mergeStep(0));
    }

    private static void patch() {
        Keep k = full(true);
        k.refuses("patch of no byte, OPEN", STATE, 0, () -> k.x.patch(5, 5, 5));
        Keep closed = full(false);
        closed.refuses("patch of no byte", IndexOutOfBoundsException.class, 0, () -> closed.x.patch(5, 5, 5));
    }

    public static void main(String[] args) {
        put();
        remove();
        feed();
        crash();
        merge();
        patch();
        Check.end();
    }
}
