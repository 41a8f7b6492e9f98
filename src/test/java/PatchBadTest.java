/** Promises 13 and 18. */
public final class PatchBadTest {
    private static void patch() {
        Class<IndexOutOfBoundsException> none = IndexOutOfBoundsException.class;
        Keep k = Keep.formatted(1024, 128);
        k.put("a", "x".repeat(64));
        k.put("b", "y".repeat(64));
        k.feed("tape");
        k.refuses("patch of an open store", IllegalStateException.class, 4, () -> k.x.patch(0, 0, 1));
        k.refuses("a wrong patch of an open store", IllegalStateException.class, 4, () -> k.x.patch(9, 9, 1));
        k.x.crash(158);
        int[][] wrong = {{-1, 0}, {2, 0}, {0, -1}, {0, 79}, {Integer.MIN_VALUE, 0}, {Integer.MAX_VALUE, 0},
            {1, Integer.MAX_VALUE}, {1, Integer.MIN_VALUE}};
        for (int[] w : wrong) k.refuses("patch of no byte", none, 4, () -> k.x.patch(w[0], w[1], 1));
        Check.same("patch of the last byte", k.x.patch(1, 78, 0x12345678), 'y');
        Check.same("the byte", k.x.byteOf(1, 78), 0x78);
        Check.same("patch again", k.x.patch(1, 78, -1), 0x78);
        Check.same("patch again", k.x.patch(1, 78, 'y'), 255);
        Check.same("patch of the first byte of a STAMP", k.x.patch(0, 4, 255), 0);
        Check.same("patch again", k.x.patch(0, 4, 0), 255);
        Check.same("UNSYNCED", k.x.look(5), 0);
        Check.same("keys", k.x.open(), 2);
        Check.same("bytes CUT", k.x.look(9), 0);
        k.refuses("patch of an open store", IllegalStateException.class, 4, () -> k.x.patch(0, 0, 1));
    }

    private static void patchOfNothing() {
        Keep k = new Keep();
        k.x.crash(0);
        k.refuses("patch of an empty disk", IndexOutOfBoundsException.class, 0, () -> k.x.patch(0, 0, 1));
    }

    private static void bad() {
        Keep k = new Keep();
        for (int i = 0; i < 5; i++) k.put("k" + i, "v" + i);
        k.x.mergeBegin();
        k.x.mergeStep(99);
        Check.same("bad()", k.x.bad(), 0);
        for (int i = 0; i < 5; i++) {
            k.x.crash(0);
            k.x.patch(0, 18 * i + 17, 'x');
            k.x.open();
            Check.same("bad()", k.x.bad(), i + 1);
        }
        Check.same("put over a BAD one", k.put("k0", ""), 6);
        Check.same("bad()", k.x.bad(), 4);
        Check.same("remove of a BAD one", k.remove("k1") ? 1 : 0, 1);
        Check.same("bad()", k.x.bad(), 3);
        Check.same("mergeBegin()", k.x.mergeBegin(), 3 + 1 + 2 + 1 + 1);
        Check.same("all units", k.x.mergeStep(99), 0);
        Check.same("bad() of the copies", k.x.bad(), 3);
        k.feed("tape");
        k.x.crash(0);
        k.refuses("bad() of a closed store", IllegalStateException.class, 4, k.x::bad);
    }

    public static void main(String[] args) {
        patch();
        patchOfNothing();
        bad();
        Check.end();
    }
}
