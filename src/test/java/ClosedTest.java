/** Each call while the store is not OPEN, and those that are refused while it is. */
public final class ClosedTest {
    private static final Class<IllegalStateException> STATE = IllegalStateException.class;

    /** Not OPEN behind a crash in a MERGE, with an ANSWER and a tape of 4 bytes. */
    private static Keep closed() {
        Keep k = new Keep();
        k.put("a", "one");
        k.put("b", "two");
        k.get("a");
        k.x.mergeBegin();
        k.x.mergeStep(1);
        k.x.crash(36 + 18);
        k.feed("tape");
        return k;
    }

    /** "IllegalStateException: it is not OPEN": right calls and wrong ones; three of them empty the tape. */
    private static void refused() {
        for (int n = -1; n <= 17; n++) {
            Keep k = closed();
            int size = n;
            k.refuses("put(" + n + ")", STATE, 0, () -> k.x.put(size));
            k.refuses("put(" + n + ") of an empty tape", STATE, 0, () -> k.x.put(size));
        }
        Keep k = closed();
        k.refuses("sync()", STATE, 4, k.x::sync);
        k.refuses("crash(0)", STATE, 4, () -> k.x.crash(0));
        k.refuses("crash(-1)", STATE, 4, () -> k.x.crash(-1));
        k.refuses("crash(1)", STATE, 4, () -> k.x.crash(1));
        k.refuses("mergeBegin()", STATE, 4, k.x::mergeBegin);
        k.refuses("mergeStep(1)", STATE, 4, () -> k.x.mergeStep(1));
        k.refuses("mergeStep(0)", STATE, 4, () -> k.x.mergeStep(0));
        k.refuses("bad()", STATE, 4, k.x::bad);
        k.refuses("remove()", STATE, 0, () -> k.x.remove() ? 1 : 0);
        k.refuses("remove() of an empty tape", STATE, 0, () -> k.x.remove() ? 1 : 0);
        k.feed("a");
        k.refuses("get()", STATE, 0, k.x::get);
        k.refuses("get() of an empty tape", STATE, 0, k.x::get);
        k.feed("x".repeat(17));
        k.refuses("remove() of 17 bytes", STATE, 0, () -> k.x.remove() ? 1 : 0);
    }

    /** What may be done and seen still. */
    private static void done() {
        Keep k = closed();
        Check.same("answer(0)", k.x.answer(0), 'o');
        Check.same("answer(2)", k.x.answer(2), 'e');
        Check.same("answer(3)", k.x.answer(3), -1);
        Check.same("files", k.files(), "1D36-0 2D18-0");
        Check.same("byteOf(1, 14)", k.x.byteOf(1, 14), 'a');
        Check.same("byteOf(1, 18)", k.x.byteOf(1, 18), -1);
        Check.same("feed", k.x.feed(16, 0, 0), 20);
        Check.same("patch", k.x.patch(1, 17, 'E'), 'e');
        Check.same("open()", k.x.open(), 2);
        Check.same("tape behind all", k.x.look(6), 20);
        k.x.crash(0);
        k.x.format(128, 128);
        Check.same("tape behind format()", k.x.look(6), 20);
        Check.same("OPEN behind format()", k.x.look(0), 1);
    }

    /** "NONE .. if it is not OPEN", and look(): 0 to 10 as they are, NONE of what is above. */
    private static void none() {
        Keep k = closed();
        for (int i = -1; i <= 2; i++) {
            for (int what = -1; what <= 5; what++) {
                Check.same("entry(" + i + ", " + what + ")", k.x.entry(i, what), -1);
                Check.same("key(" + i + ", " + what + ")", k.x.key(i, what), -1);
            }
        }
        int[] due = {0, 4096, 512, 2, 4096 - 54, 0, 4, 0, 0, 0, 0};
        for (int what = 0; what < due.length; what++) Check.same("look(" + what + ")", k.x.look(what), due[what]);
        for (int what = 11; what <= 21; what++) Check.same("look(" + what + ")", k.x.look(what), -1);
        Check.same("look(-1)", k.x.look(-1), -1);
    }

    /** "What is said of ACTIVE, MERGE and DIRECTORY is gone": an opening does not bring it back. */
    private static void gone() {
        Keep k = closed();
        k.x.open();
        Check.same("ACTIVE", k.x.look(14), -1);
        Check.same("OUTPUT", k.x.look(15), -1);
        Check.same("units", k.x.look(16), 0);
        Check.same("RESERVED", k.x.look(17), 0);
        k.refuses("mergeStep(1)", STATE, 4, () -> k.x.mergeStep(1));
        Check.same("a new MERGE", k.x.mergeBegin(), 2 + 1 + 2 + 1);
        Check.same("all units", k.x.mergeStep(6), 0);
        Check.same("keys", k.x.look(11), 2);
    }

    /** A crash of an empty store, and one behind another: OPEN comes only by open() and format(). */
    private static void empty() {
        Keep k = new Keep();
        Check.same("crash(0)", k.x.crash(0), 0);
        Check.same("OPEN", k.x.look(0), 0);
        k.refuses("crash(0) again", STATE, 0, () -> k.x.crash(0));
        k.refuses("mergeBegin() without a DATA file", STATE, 0, k.x::mergeBegin);
        Check.same("open()", k.x.open(), 0);
        k.refuses("open() again", STATE, 0, k.x::open);
        Check.same("OPEN", k.x.look(0), 1);
        Check.same("crash(0)", k.x.crash(0), 0);
        Check.same("open()", k.x.open(), 0);
    }

    /** "IllegalStateException: it is OPEN": open() and patch(), also with a right byte. */
    private static void refusedOpen() {
        Keep k = closed();
        k.x.open();
        k.refuses("open()", STATE, 4, k.x::open);
        k.refuses("patch(0, 0, 1)", STATE, 4, () -> k.x.patch(0, 0, 1));
        k.refuses("patch(0, 99, 1)", STATE, 4, () -> k.x.patch(0, 99, 1));
        k.refuses("patch(-1, 0, 1)", STATE, 4, () -> k.x.patch(-1, 0, 1));
        k.x.mergeBegin();
        k.refuses("open() in a MERGE", STATE, 4, k.x::open);
    }

    public static void main(String[] args) {
        refused();
        done();
        none();
        gone();
        empty();
        refusedOpen();
        Check.end();
    }
}
