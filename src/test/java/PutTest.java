import java.util.Arrays;

/** Promise 4, and the WRITE of term 2. */
public final class PutTest {
    private static void record() {
        Keep k = new Keep();
        Check.same("the first STAMP", k.put("key", "va"), 1);
        byte[] body = {0, 0, 0, 1, 0, 3, 0, 0, 0, 2, 'k', 'e', 'y', 'v', 'a'};
        byte[] due = Model.join(Model.four(Model.sum(body, 0, body.length)), body);
        Check.same("the RECORD", Arrays.toString(k.bytes(0)), Arrays.toString(due));
        Check.same("the next STAMP", k.put("key", ""), 2);
        Check.same("the DIRECTORY", k.entries(), "key:0,1,19,2");
        Check.same("tape", k.x.look(6), 0);
        k.put("k", "");
        k.put("key\u00ff", "");
        k.put("kez", "");
        k.put("\u0080", "");
        Check.same("keys in order", k.entries(), "k:0,1,36,3 key:0,1,19,2 key\u00ff:0,1,51,4 kez:0,1,69,5 \u0080:0,1,86,6");
    }

    private static void newFiles() {
        Keep k = Keep.formatted(4096, 128);
        k.put("a", "x".repeat(49));
        k.put("b", "x".repeat(49));
        Check.same("a file of FILEMOST bytes", k.files(), "1D128-128");
        Check.same("ACTIVE", k.x.look(14), 1);
        k.put("c", "");
        Check.same("a file more", k.files(), "1D128-128 2D15-15");
        Check.same("ACTIVE", k.x.look(14), 2);
        k.put("d", "x".repeat(64));
        k.put("e", "x".repeat(21));
        Check.same("one byte too many", k.files(), "1D128-128 2D94-94 3D36-36");
        Check.same("the next NUMBER", k.x.look(13), 4);
    }

    private static void wrongOnes() {
        Class<IllegalArgumentException> wrong = IllegalArgumentException.class;
        Keep k = new Keep();
        k.put("a", "one");
        int[] sizes = {0, 17, -1, 5, Integer.MAX_VALUE, Integer.MIN_VALUE};
        for (int size : sizes) {
            k.feed("tape");
            k.refuses("put(" + size + ") of 4 bytes", wrong, 0, () -> k.x.put(size));
        }
        k.refuses("put(1) of an empty tape", wrong, 0, () -> k.x.put(1));
        k.feed("x".repeat(80));
        k.refuses("put(15) of 80 bytes", wrong, 0, () -> k.x.put(15));
        k.feed("x".repeat(80));
        k.refuses("put(17) of 80 bytes", wrong, 0, () -> k.x.put(17));
        k.feed("x".repeat(80));
        Check.same("put(16) of 80 bytes", k.x.put(16), 2);
        k.feed("x".repeat(16));
        Check.same("put(16) of 16 bytes", k.x.put(16), 3);
        k.x.crash(0);
        k.feed("tape");
        k.refuses("put of a closed store", IllegalStateException.class, 0, () -> k.x.put(99));
    }

    private static void full() {
        Keep k = Keep.formatted(128, 128);
        k.put("a", "x".repeat(64));
        k.put("b", "x".repeat(17));
        Check.same("ROOM", k.x.look(4), 17);
        k.feed("cdef");
        k.refuses("put of 18 bytes", UnsupportedOperationException.class, 0, () -> k.x.put(1));
        k.feed("x".repeat(80));
        k.refuses("a wrong put of a full store", IllegalArgumentException.class, 0, () -> k.x.put(1));
        Check.same("put of 17 bytes", k.put("c", "de"), 3);
        k.feed("c");
        k.refuses("put at no ROOM", UnsupportedOperationException.class, 0, () -> k.x.put(1));
        Check.same("ROOM", k.x.look(4), 0);
    }

    /** RESERVED bytes of a MERGE are none for a WRITE. */
    private static void fullByMerge() {
        Keep k = Keep.formatted(128, 128);
        k.put("a", "1");
        k.x.mergeBegin();
        Check.same("RESERVED", k.x.look(17), 16 + 23 + 12);
        Check.same("ROOM", k.x.look(4), 112);
        k.feed("b" + "x".repeat(47));
        k.refuses("put of 62 bytes", UnsupportedOperationException.class, 0, () -> k.x.put(1));
        Check.same("put of 61 bytes", k.put("b", "x".repeat(46)), 2);
        k.feed("b");
        k.refuses("remove at no ROOM", UnsupportedOperationException.class, 0, () -> k.x.remove() ? 1 : 0);
        Check.same("all units", k.x.mergeStep(99), 0);
        Check.same("files", k.files(), "2D61-0 3D16-0 3H23-0");
    }

    private static void lastStamp() {
        Keep k = new Keep();
        k.put("a", "1");
        k.x.crash(16);
        k.patchNumber(0, 4, 999999999);
        k.mendRecord(0, 0, 16);
        Check.same("keys", k.x.open(), 1);
        Check.same("the last STAMP", k.put("b", ""), 1000000000);
        Check.same("the next one", k.x.look(12), 1000000001);
        k.feed("b");
        k.refuses("put without a STAMP", UnsupportedOperationException.class, 0, () -> k.x.put(1));
        k.feed("b");
        k.refuses("remove without a STAMP", UnsupportedOperationException.class, 0, () -> k.x.remove() ? 1 : 0);
        Check.same("remove of a key that is not there", k.remove("c") ? 1 : 0, 0);
    }

    public static void main(String[] args) {
        record();
        newFiles();
        wrongOnes();
        full();
        fullByMerge();
        lastStamp();
        Check.end();
    }
}
