/** Promise 2. */
public final class FormatTest {
    private static final Class<IllegalArgumentException> WRONG = IllegalArgumentException.class;

    private static long format(Keep k, int capacity, int fileMost) {
        k.x.format(capacity, fileMost);
        return 0;
    }

    private static void allIsNewButTheTape(Keep k, int tape) {
        int[] due = {1, 128, 4096, 0, 128, 0, tape, 0, 0, 0, 0, 0, 1, 1, -1, -1, 0, 0, 0, 0};
        for (int what = 0; what < due.length; what++) {
            Check.same("look(" + what + ") behind format()", k.x.look(what), due[what]);
        }
        Check.same("the ANSWER behind format()", k.answer(), "");
        Check.same("files behind format()", k.files(), "");
        Check.same("keys behind format()", k.entries(), "");
    }

    private static void ofAnOpenStore() {
        Keep k = new Keep();
        k.put("a", "one");
        k.put("b", "two");
        k.get("a");
        k.x.mergeBegin();
        k.x.mergeStep(1);
        k.feed("tape");
        k.x.format(128, 4096);
        allIsNewButTheTape(k, 4);
        Check.same("put behind format()", k.x.put(1), 1);
        Check.same("files behind a put", k.files(), "1D18-18");
        Check.same("crash behind format()", k.x.crash(18), 0);
    }

    private static void ofAClosedStore() {
        Keep k = new Keep();
        k.put("a", "one");
        k.put("b", "two");
        k.reopen(20);
        k.x.crash(0);
        k.x.format(128, 4096);
        allIsNewButTheTape(k, 0);
    }

    private static void edgesAndWrongOnes() {
        Keep k = new Keep();
        k.put("a", "one");
        k.feed("tape");
        k.refuses("format(127, 128)", WRONG, 4, () -> format(k, 127, 128));
        k.refuses("format(16385, 128)", WRONG, 4, () -> format(k, 16385, 128));
        k.refuses("format(128, 127)", WRONG, 4, () -> format(k, 128, 127));
        k.refuses("format(128, 4097)", WRONG, 4, () -> format(k, 128, 4097));
        k.refuses("format(-1, -1)", WRONG, 4, () -> format(k, -1, -1));
        k.refuses("format of the greatest", WRONG, 4, () -> format(k, Integer.MAX_VALUE, Integer.MIN_VALUE));
        k.x.format(16384, 128);
        Check.same("CAPACITY", k.x.look(1), 16384);
        Check.same("FILEMOST", k.x.look(2), 128);
    }

    /** "capacity is not 128 to 16384, or fileMost not 128 to 4096": on, below and above each edge. */
    private static void allEdges() {
        int[] capacities = {Integer.MIN_VALUE, -128, 0, 1, 127, 128, 129, 4096, 16383, 16384, 16385, Integer.MAX_VALUE};
        int[] mosts = {Integer.MIN_VALUE, -128, 0, 1, 127, 128, 129, 512, 4095, 4096, 4097, 16384, Integer.MAX_VALUE};
        for (int capacity : capacities) {
            for (int most : mosts) {
                Keep k = new Keep();
                k.put("a", "one");
                k.feed("tape");
                String what = "format(" + capacity + ", " + most + ")";
                if (capacity < 128 || capacity > 16384 || most < 128 || most > 4096) {
                    k.refuses(what, WRONG, 4, () -> format(k, capacity, most));
                    continue;
                }
                k.x.format(capacity, most);
                Check.same("CAPACITY of " + what, k.x.look(1), capacity);
                Check.same("FILEMOST of " + what, k.x.look(2), most);
                Check.same("ROOM of " + what, k.x.look(4), capacity);
                Check.same("files of " + what, k.x.look(3), 0);
            }
        }
    }

    /** A FILEMOST above the CAPACITY is fine: all bytes are in one file. */
    private static void mostAboveCapacity() {
        Keep k = Keep.formatted(128, 4096);
        k.fill(128);
        Check.same("files", k.files(), "1D128-128");
        Check.same("ROOM", k.x.look(4), 0);
        k.feed("a");
        k.refuses("put at no ROOM", UnsupportedOperationException.class, 0, () -> k.x.put(1));
    }

    /** The greatest CAPACITY, up to its last byte: in 512 calls only MERGES that crash bring so many. */
    private static void greatest() {
        Keep k = Keep.formatted(16384, 4096);
        for (int i = 0; i < 40; i++) k.put("k".repeat(14) + (i + 10), "x".repeat(64));
        for (int i = 0; i < 3; i++) {
            k.x.mergeBegin();
            k.x.mergeStep(40);
            Check.same("keys", k.reopen(k.x.look(5)), 40);
        }
        Check.same("ROOM", k.x.look(4), 16384 - 4 * 40 * 94);
        k.refuses("mergeBegin() once more", UnsupportedOperationException.class, 0, k.x::mergeBegin);
        for (int i = 0; i < 17; i++) k.put("l", "x".repeat(64));
        k.feed("x");
        k.refuses("put of 15 bytes", UnsupportedOperationException.class, 0, () -> k.x.put(1));
        Check.same("ROOM", k.x.look(4), 1);
    }

    /** A format() that is refused leaves a closed store closed; one that isn't opens it. */
    private static void closed() {
        Keep k = new Keep();
        k.put("a", "one");
        k.x.crash(17);
        k.refuses("format(127, 512) of a closed store", WRONG, 0, () -> format(k, 127, 512));
        k.x.format(4096, 512);
        Check.same("OPEN", k.x.look(0), 1);
        Check.isThrown("open() behind format()", IllegalStateException.class, k.x::open);
    }

    /** "nothing was OPENED": look(7) to look(10) are 0 again; UNSYNCED bytes of before are none. */
    private static void countsAgain() {
        Keep k = Craft.hinted(Craft.hint(1, Craft.entry(1, 0, 0, "d")));
        k.x.patch(0, 0, ~k.x.byteOf(0, 0));
        k.x.open();
        Check.same("entries READ", k.x.look(7), 1);
        Check.same("RECORDS READ", k.x.look(8), 1);
        Check.same("bytes CUT", k.x.look(9), 112);
        Check.same("files REMOVED", k.x.look(10), 1);
        k.put("e", "");
        k.x.format(128, 128);
        for (int what = 7; what <= 10; what++) Check.same("look(" + what + ")", k.x.look(what), 0);
        Check.same("UNSYNCED", k.x.look(5), 0);
        k.put("f", "");
        Check.same("crash(0)", k.x.crash(0), 15);
        Check.same("files", k.files(), "");
    }

    public static void main(String[] args) {
        ofAnOpenStore();
        ofAClosedStore();
        edgesAndWrongOnes();
        allEdges();
        mostAboveCapacity();
        greatest();
        closed();
        countsAgain();
        Check.end();
    }
}
