/** Promises 6 and 7. */
public final class GetTest {
    private static void ordinary() {
        Keep k = new Keep();
        k.put("a", "one");
        k.put("ab", "\u00ff");
        k.put("b", "");
        Check.same("get", k.get("a"), "one");
        Check.same("answer(0)", k.x.answer(0), 'o');
        Check.same("answer(3)", k.x.answer(3), -1);
        Check.same("answer(-1)", k.x.answer(-1), -1);
        Check.same("answer of the least", k.x.answer(Integer.MIN_VALUE), -1);
        Check.same("answer of the greatest", k.x.answer(Integer.MAX_VALUE), -1);
        Check.same("tape", k.x.look(6), 0);
        k.get("ab");
        Check.same("a byte of 255", k.x.answer(0), 255);
        Check.same("no more bytes of the old ANSWER", k.x.answer(1), -1);
        Check.same("get of an empty value", k.feed("b").x.get(), 0);
        Check.same("answer(0)", k.x.answer(0), -1);
    }

    private static void notThere() {
        Keep k = new Keep();
        k.put("a", "one");
        String[] keys = {"", "b", "aa", "x".repeat(17), "x".repeat(80)};
        for (String key : keys) {
            k.get("a");
            Check.same("get of " + key, k.get(key), "-1");
            Check.same("its ANSWER", k.answer(), "");
            Check.same("tape", k.x.look(6), 0);
        }
    }

    /** "also one of no or too many bytes": the longest key is there, and one byte more. */
    private static void longest() {
        for (int n = 0; n <= 80; n++) {
            Keep k = new Keep();
            k.put("k".repeat(16), "v".repeat(64));
            k.get("k".repeat(16));
            Check.same("get by " + n + " bytes", k.get("k".repeat(n)), n == 16 ? "v".repeat(64) : "-1");
            Check.same("its ANSWER", k.answer(), n == 16 ? "v".repeat(64) : "");
        }
        Keep k = new Keep();
        k.put("k", "");
        Check.same("get by 1 byte", k.feed("k").x.get(), 0);
        Check.same("get by 2 bytes", k.feed("kk").x.get(), -1);
    }

    /** answer(i): below the first byte, the first, the last, and one above, of values of 0 to 64 bytes. */
    private static void answers() {
        for (int n = 0; n <= 64; n++) {
            Keep k = new Keep();
            k.put("a", "v".repeat(n));
            Check.same("get of " + n + " bytes", k.feed("a").x.get(), n);
            int[] none = {Integer.MIN_VALUE, -2, -1, n, n + 1, 64, 80, 255, Integer.MAX_VALUE};
            for (int i : none) Check.same("answer(" + i + ") of " + n + " bytes", k.x.answer(i), -1);
            if (n > 0) Check.same("answer(0) of " + n + " bytes", k.x.answer(0), 'v');
            if (n > 0) Check.same("the last byte of " + n, k.x.answer(n - 1), 'v');
        }
    }

    /** The ANSWER stays until the next get(), whatever is done with the key. */
    private static void answerStays() {
        Keep k = new Keep();
        k.put("a", "one");
        k.get("a");
        k.put("a", "another");
        k.remove("a");
        k.x.sync();
        k.x.mergeBegin();
        k.x.mergeStep(9);
        Check.same("the ANSWER", k.answer(), "one");
        k.reopen(0);
        Check.same("the ANSWER behind an opening", k.answer(), "one");
        Check.same("get", k.get("a"), "-1");
        Check.same("the ANSWER", k.answer(), "");
    }

    /** Each byte of the RECORD counts; the HINT tells of it still. */
    private static void bad() {
        for (int i = 0; i < 19; i++) {
            Keep k = new Keep();
            k.put("a", "one!");
            k.x.mergeBegin();
            k.x.mergeStep(9);
            k.get("a");
            k.x.crash(0);
            int was = k.x.patch(0, i, ~k.x.byteOf(0, i));
            k.x.open();
            Check.same("entries READ from HINTS", k.x.look(7), 1);
            Check.same("get of a RECORD with another byte " + i, k.get("a"), "-2");
            Check.same("its ANSWER", k.answer(), "");
            Check.same("bad()", k.x.bad(), 1);
            k.x.crash(0);
            k.x.patch(0, i, was);
            k.x.open();
            Check.same("get of the RECORD as it was", k.get("a"), "one!");
        }
    }

    /** A RECORD whose SUM is right, but which is not the one that the DIRECTORY tells of. */
    private static void another() {
        int[] places = {7, 9, 13, 14};
        for (int place : places) {
            Keep k = new Keep();
            k.put("ab", "cdef");
            k.x.mergeBegin();
            k.x.mergeStep(9);
            k.x.crash(0);
            k.x.patch(0, place, k.x.byteOf(0, place) + 1);
            k.mendRecord(0, 0, 20);
            k.x.open();
            Check.same("get of another RECORD, byte " + place, k.get("ab"), "-2");
        }
    }

    private static void closed() {
        Keep k = new Keep();
        k.put("a", "one");
        k.get("a");
        k.x.crash(0);
        k.feed("a");
        k.refuses("get of a closed store", IllegalStateException.class, 0, k.x::get);
        Check.same("the ANSWER stays", k.answer(), "one");
        k.x.open();
        Check.same("the ANSWER stays", k.answer(), "one");
    }

    public static void main(String[] args) {
        ordinary();
        notThere();
        longest();
        answers();
        answerStays();
        bad();
        another();
        closed();
        Check.end();
    }
}
