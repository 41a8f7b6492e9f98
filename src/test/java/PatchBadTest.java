/** Promises 13 and 18. */
public final class PatchBadTest {
    private static void patch() {
        Class<IndexOutOfBoundsException> none = IndexOutOfBoundsException.class;
        Keep k = Keep.formatted(1024, 128);
        k.put("a", "x".repeat(64));
        k.put("b", "y".repeat(64));
        k.feed("tape");
        k.refuses("patch of an open store", IllegalStateException.class, 4, () -> k.x.patch(0, 0, 1));
        k.refuses("a wrong patch of an open store", IllegalStateException.class, 4, () -> k.x.patch(9, 9, 1));
        k.x.crash(158);
        int[][] wrong = {{-1, 0}, {2, 0}, {0, -1}, {0, 79}, {Integer.MIN_VALUE, 0}, {Integer.MAX_VALUE, 0},
            {1, Integer.MAX_VALUE}, {1, Integer.MIN_VALUE}};
        for (int[] w : wrong) k.refuses("patch of no byte", none, 4, () -> k.x.patch(w[0], w[1], 1));
        Check.same("patch of the last byte", k.x.patch(1, 78, 0x12345678), 'y');
        Check.same("the byte", k.x.byteOf(1, 78), 0x78);
        Check.same("patch again", k.x.patch(1, 78, -1), 0x78);
        Check.same("patch again", k.x.patch(1, 78, 'y'), 255);
        Check.same("patch of the first byte of a STAMP", k.x.patch(0, 4, 255), 0);
        Check.same("patch again", k.x.patch(0, 4, 0), 255);
        Check.same("UNSYNCED", k.x.look(5), 0);
        Check.same("keys", k.x.open(), 2);
        Check.same("bytes CUT", k.x.look(9), 0);
        k.refuses("patch of an open store", IllegalStateException.class, 4, () -> k.x.patch(0, 0, 1));
    }

    private static void patchOfNothing() {
        Keep k = new Keep();
        k.x.crash(0);
        k.refuses("patch of an empty disk", IndexOutOfBoundsException.class, 0, () -> k.x.patch(0, 0, 1));
    }

    /** "there is no such byte": below the first, the first, the last, and one above, of each file. */
    private static void patchEdges() {
        Keep k = Craft.marked(1, Craft.mark(1, 1));
        Check.same("files", k.files(), "1D16-0 2D16-0 2H24-0 3M12-0");
        int[] sizes = {16, 16, 24, 12};
        for (int f = -1; f <= 4; f++) {
            int file = f;
            int size = f < 0 || f > 3 ? 0 : sizes[f];
            int[] places = {Integer.MIN_VALUE, -1, 0, size - 1, size, size + 1, Integer.MAX_VALUE};
            for (int i : places) {
                if (i < 0 || i >= size) {
                    k.refuses("patch(" + f + ", " + i + ", 1)", IndexOutOfBoundsException.class, 0, () -> k.x.patch(file, i, 1));
                    continue;
                }
                int was = k.x.byteOf(f, i);
                Check.same("patch(" + f + ", " + i + ", ..)", k.x.patch(f, i, was ^ 255), was);
                Check.same("the byte", k.x.byteOf(f, i), was ^ 255);
                Check.same("patch back", k.x.patch(f, i, was), was ^ 255);
            }
        }
        Check.same("keys", k.x.open(), 1);
        Check.same("files", k.files(), "2D16-0 2H24-0");
    }

    /** "becomes the lowest byte of v": the others of v do not count. */
    private static void patchValues() {
        Keep k = new Keep();
        k.put("a", "");
        k.x.crash(15);
        int was = k.x.byteOf(0, 0);
        int behind = k.x.byteOf(0, 1);
        int[] values = {0, 1, 127, 128, 255, 256, 257, 511, -1, -128, -129, -256, Integer.MIN_VALUE, Integer.MAX_VALUE};
        for (int v : values) {
            Check.same("patch(0, 0, " + v + ")", k.x.patch(0, 0, v), was);
            was = v & 255;
            Check.same("the byte of " + v, k.x.byteOf(0, 0), was);
        }
        Check.same("the byte behind", k.x.byteOf(0, 1), behind);
        Check.same("bytes", k.x.file(0, 2), 15);
    }

    /** bad() without a key, and a store all of whose RECORDS are BAD. */
    private static void badEdges() {
        Keep k = new Keep();
        Check.same("bad() without a key", k.x.bad(), 0);
        k.put("a", "");
        Check.same("bad() of one key", k.x.bad(), 0);
        k.remove("a");
        Check.same("bad() behind remove()", k.x.bad(), 0);
        // Two keys at one PLACE: at most one of them can be the RECORD's.
        Keep two = Craft.hinted(Craft.hint(2, Craft.entry(9, 0, 16, "a".repeat(16)), Craft.entry(9, 0, 16, "d".repeat(16))));
        two.x.open();
        Check.same("bad() of other STAMPS", two.x.bad(), 2);
        Keep one = Craft.hinted(Craft.hint(2, Craft.entry(1, 0, 16, "a".repeat(16)), Craft.entry(1, 0, 16, "d".repeat(16))));
        one.x.open();
        Check.same("bad() of another key", one.x.bad(), 1);
        Check.same("get of it", one.get("d".repeat(16)), "-2");
        Check.same("get of the other", one.get("a".repeat(16)), "x".repeat(16));
    }

    /** "another STAMP, KSIZE, VSIZE or key": what the HINT tells is one more or one less. */
    private static void badByOne() {
        String key = "a".repeat(16);
        badIs("as it is", Craft.entry(1, 0, 16, key), key, 0);
        badIs("STAMP 2", Craft.entry(2, 0, 16, key), key, 1);
        badIs("VSIZE 15", Craft.entry(1, 0, 15, key), key, 1);
        badIs("VSIZE 17", Craft.entry(1, 0, 17, key), key, 1);
        badIs("PLACE 1", Craft.entry(1, 1, 16, key), key, 1);
        badIs("KSIZE 15", Craft.entry(1, 0, 17, "a".repeat(15)), "a".repeat(15), 1);
        badIs("another last byte", Craft.entry(1, 0, 16, "a".repeat(15) + "b"), "a".repeat(15) + "b", 1);
        badIs("another first byte", Craft.entry(1, 0, 16, "b" + "a".repeat(15)), "b" + "a".repeat(15), 1);
    }

    private static void badIs(String what, byte[] entry, String key, int due) {
        Keep k = Craft.hinted(Craft.hint(1, entry));
        k.x.open();
        Check.same("bad(), " + what, k.x.bad(), due);
        Check.same("get, " + what, k.get(key), due == 1 ? "-2" : "x".repeat(16));
        Check.same("the ANSWER, " + what, k.answer(), due == 1 ? "" : "x".repeat(16));
    }

    private static void bad() {
        Keep k = new Keep();
        for (int i = 0; i < 5; i++) k.put("k" + i, "v" + i);
        k.x.mergeBegin();
        k.x.mergeStep(99);
        Check.same("bad()", k.x.bad(), 0);
        for (int i = 0; i < 5; i++) {
            k.x.crash(0);
            k.x.patch(0, 18 * i + 17, 'x');
            k.x.open();
            Check.same("bad()", k.x.bad(), i + 1);
        }
        Check.same("put over a BAD one", k.put("k0", ""), 6);
        Check.same("bad()", k.x.bad(), 4);
        Check.same("remove of a BAD one", k.remove("k1") ? 1 : 0, 1);
        Check.same("bad()", k.x.bad(), 3);
        Check.same("mergeBegin()", k.x.mergeBegin(), 3 + 1 + 2 + 1 + 1);
        Check.same("all units", k.x.mergeStep(99), 0);
        Check.same("bad() of the copies", k.x.bad(), 3);
        k.feed("tape");
        k.x.crash(0);
        k.refuses("bad() of a closed store", IllegalStateException.class, 4, k.x::bad);
    }

    public static void main(String[] args) {
        patch();
        patchOfNothing();
        patchEdges();
        patchValues();
        badEdges();
        badByOne();
        bad();
        Check.end();
    }
}
