/** "Of several exceptions the one that the call names first is thrown", and nothing but the tape changes. */
public final class ThrowOrderTest {
    private static final Class<IllegalStateException> STATE = IllegalStateException.class;
    private static final Class<IllegalArgumentException> WRONG = IllegalArgumentException.class;
    private static final Class<UnsupportedOperationException> FULL = UnsupportedOperationException.class;

    /** A store without ROOM for a RECORD; not OPEN if so told. */
    private static Keep full(boolean isOpen) {
        Keep k = Keep.formatted(128, 128);
        k.fill(128 - 14);
        k.x.sync();
        k.get("k");
        if (!isOpen) k.x.crash(0);
        return k;
    }

    private static void put() {
        Keep k = full(true);
        k.feed("kv");
        k.refuses("a right put, FULL", FULL, 0, () -> k.x.put(1));
        k.feed("kv");
        k.refuses("a wrong put, FULL", WRONG, 0, () -> k.x.put(0));
        k.feed("kv");
        k.refuses("a put of more than the tape, FULL", WRONG, 0, () -> k.x.put(3));
        k.feed("k".repeat(66));
        k.refuses("a put of 65 bytes, FULL", WRONG, 0, () -> k.x.put(1));
        Keep closed = full(false);
        closed.feed("kv");
        closed.refuses("a right put, FULL, not OPEN", STATE, 0, () -> closed.x.put(1));
        closed.feed("kv");
        closed.refuses("a wrong put, FULL, not OPEN", STATE, 0, () -> closed.x.put(0));
    }

    private static void remove() {
        Keep k = full(true);
        k.feed("k");
        k.refuses("a right remove, FULL", FULL, 0, () -> k.x.remove() ? 1 : 0);
        k.refuses("remove of no bytes, FULL", WRONG, 0, () -> k.x.remove() ? 1 : 0);
        k.feed("k".repeat(17));
        k.refuses("remove of 17 bytes, FULL", WRONG, 0, () -> k.x.remove() ? 1 : 0);
        k.feed("l");
        Check.same("remove of what is not there, FULL", k.x.remove() ? 1 : 0, 0);
        Keep closed = full(false);
        closed.feed("k");
        closed.refuses("a right remove, FULL, not OPEN", STATE, 0, () -> closed.x.remove() ? 1 : 0);
        closed.refuses("remove of no bytes, FULL, not OPEN", STATE, 0, () -> closed.x.remove() ? 1 : 0);
    }

    private static void feed() {
        Keep k = full(true);
        k.feed("x".repeat(80));
        k.refuses("feed(1) at 80 bytes", FULL, 80, () -> k.x.feed(1, 0, 0));
        k.refuses("feed(0) at 80 bytes", WRONG, 80, () -> k.x.feed(0, 0, 0));
        k.refuses("feed(17) at 80 bytes", WRONG, 80, () -> k.x.feed(17, 0, 0));
    }

    private static void crash() {
        Keep k = full(true);
        k.refuses("crash(1) of no UNSYNCED byte", WRONG, 0, () -> k.x.crash(1));
        k.refuses("crash(-1)", WRONG, 0, () -> k.x.crash(-1));
        Keep closed = full(false);
        closed.refuses("crash(1), not OPEN", STATE, 0, () -> closed.x.crash(1));
        closed.refuses("crash(-1), not OPEN", STATE, 0, () -> closed.x.crash(-1));
    }

    private static void merge() {
        Keep k = full(true);
        k.refuses("mergeBegin() without ROOM", FULL, 0, k.x::mergeBegin);
        k.refuses("mergeStep(0) without a MERGE", STATE, 0, () -> k.x.mergeStep(0));
        Keep closed = full(false);
        closed.refuses("mergeBegin() without ROOM, not OPEN", STATE, 0, closed.x::mergeBegin);
        closed.refuses("mergeStep(0), not OPEN", STATE, 0, () -> closed.x.mergeStep(0));
        Keep merging = Keep.formatted(79 + 79 + 23 + 12, 128);
        merging.fill(79);
        merging.x.mergeBegin();
        merging.x.mergeStep(1);
        merging.refuses("mergeBegin() in a MERGE without ROOM for another", STATE, 0, merging.x::mergeBegin);
        merging.refuses("mergeStep(0) in a MERGE", WRONG, 0, () -> merging.x.mergeStep(0));
    }

    private static void patch() {
        Keep k = full(true);
        k.refuses("patch of no byte, OPEN", STATE, 0, () -> k.x.patch(5, 5, 5));
        Keep closed = full(false);
        closed.refuses("patch of no byte", IndexOutOfBoundsException.class, 0, () -> closed.x.patch(5, 5, 5));
    }

    /**
     * OPEN behind an opening that has READ, CUT and REMOVED, with an ANSWER, in a MERGE with an OUTPUT and
     * an ACTIVE file, all UNSYNCED, and ROOM for 14 bytes beside what is RESERVED.
     */
    private static Keep busy() {
        Keep k = Keep.formatted(124 + 174 + 16 + 14, 128);
        k.put("a", "x".repeat(64));
        k.put("b", "y".repeat(30));
        k.put("c", "z".repeat(64));
        k.reopen(124 + 78);
        k.get("b");
        k.x.mergeBegin();
        k.x.mergeStep(1);
        k.put("d", "v");
        Check.same("ROOM less RESERVED", k.x.look(4) - k.x.look(17), 14);
        return k;
    }

    private static void refuseAll(Keep k) {
        k.feed("e");
        k.refuses("put, FULL", FULL, 0, () -> k.x.put(1));
        k.refuses("put of an empty tape", WRONG, 0, () -> k.x.put(1));
        k.feed("a");
        k.refuses("remove, FULL", FULL, 0, () -> k.x.remove() ? 1 : 0);
        k.refuses("remove of an empty tape", WRONG, 0, () -> k.x.remove() ? 1 : 0);
        k.refuses("format(127, 128)", WRONG, 0, () -> format(k, 127, 128));
        k.refuses("format(128, 127)", WRONG, 0, () -> format(k, 128, 127));
        k.refuses("feed(0)", WRONG, 0, () -> k.x.feed(0, 1, 1));
        k.refuses("crash(-1)", WRONG, 0, () -> k.x.crash(-1));
        k.refuses("crash of one byte more", WRONG, 0, () -> k.x.crash(79 + 16 + 1));
        k.refuses("open()", STATE, 0, k.x::open);
        k.refuses("mergeBegin()", STATE, 0, k.x::mergeBegin);
        k.refuses("mergeStep(0)", WRONG, 0, () -> k.x.mergeStep(0));
        k.refuses("patch(0, 0, 0)", STATE, 0, () -> k.x.patch(0, 0, 0));
    }

    private static void refuseAllNotOpen(Keep k) {
        k.feed("a");
        k.refuses("get, not OPEN", STATE, 0, k.x::get);
        k.refuses("put, not OPEN", STATE, 0, () -> k.x.put(1));
        k.refuses("remove, not OPEN", STATE, 0, () -> k.x.remove() ? 1 : 0);
        k.refuses("format(16385, 128), not OPEN", WRONG, 0, () -> format(k, 16385, 128));
        k.refuses("sync, not OPEN", STATE, 0, k.x::sync);
        k.refuses("crash(0), not OPEN", STATE, 0, () -> k.x.crash(0));
        k.refuses("mergeBegin(), not OPEN", STATE, 0, k.x::mergeBegin);
        k.refuses("mergeStep(1), not OPEN", STATE, 0, () -> k.x.mergeStep(1));
        k.refuses("bad(), not OPEN", STATE, 0, k.x::bad);
        k.refuses("patch of no byte", IndexOutOfBoundsException.class, 0, () -> k.x.patch(0, 124, 1));
    }

    private static long format(Keep k, int capacity, int fileMost) {
        k.x.format(capacity, fileMost);
        return 0;
    }

    /** "A call that throws changes nothing": nor what later calls do, from the middle of a MERGE on. */
    private static void nothingChanges() {
        for (int kept = 0; kept <= 16; kept += 8) {
            Keep k = busy();
            Keep other = busy();
            refuseAll(k);
            Check.same("units up to the MARK", k.x.mergeStep(3), other.x.mergeStep(3));
            k.put("d", "w");
            other.put("d", "w");
            Check.same("what can be seen ahead of the last unit", k.all(), other.all());
            Check.same("crash(" + kept + ")", k.x.crash(kept), other.x.crash(kept));
            refuseAllNotOpen(k);
            Check.same("open()", k.x.open(), other.x.open());
            Check.same("what can be seen behind an opening", k.all(), other.all());
        }
    }

    public static void main(String[] args) {
        nothingChanges();
        put();
        remove();
        feed();
        crash();
        merge();
        patch();
        Check.end();
    }
}
