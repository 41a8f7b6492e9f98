import java.util.Arrays;

/** Promise 4, and the WRITE of term 2. */
public final class PutTest {
    private static void record() {
        Keep k = new Keep();
        Check.same("the first STAMP", k.put("key", "va"), 1);
        byte[] body = {0, 0, 0, 1, 0, 3, 0, 0, 0, 2, 'k', 'e', 'y', 'v', 'a'};
        byte[] due = Model.join(Model.four(Model.sum(body, 0, body.length)), body);
        Check.same("the RECORD", Arrays.toString(k.bytes(0)), Arrays.toString(due));
        Check.same("the next STAMP", k.put("key", ""), 2);
        Check.same("the DIRECTORY", k.entries(), "key:0,1,19,2");
        Check.same("tape", k.x.look(6), 0);
        k.put("k", "");
        k.put("key\u00ff", "");
        k.put("kez", "");
        k.put("\u0080", "");
        Check.same("keys in order", k.entries(), "k:0,1,36,3 key:0,1,19,2 key\u00ff:0,1,51,4 kez:0,1,69,5 \u0080:0,1,86,6");
    }

    private static void newFiles() {
        Keep k = Keep.formatted(4096, 128);
        k.put("a", "x".repeat(49));
        k.put("b", "x".repeat(49));
        Check.same("a file of FILEMOST bytes", k.files(), "1D128-128");
        Check.same("ACTIVE", k.x.look(14), 1);
        k.put("c", "");
        Check.same("a file more", k.files(), "1D128-128 2D15-15");
        Check.same("ACTIVE", k.x.look(14), 2);
        k.put("d", "x".repeat(64));
        k.put("e", "x".repeat(21));
        Check.same("one byte too many", k.files(), "1D128-128 2D94-94 3D36-36");
        Check.same("the next NUMBER", k.x.look(13), 4);
    }

    private static void wrongOnes() {
        Class<IllegalArgumentException> wrong = IllegalArgumentException.class;
        Keep k = new Keep();
        k.put("a", "one");
        int[] sizes = {0, 17, -1, 5, Integer.MAX_VALUE, Integer.MIN_VALUE};
        for (int size : sizes) {
            k.feed("tape");
            k.refuses("put(" + size + ") of 4 bytes", wrong, 0, () -> k.x.put(size));
        }
        k.refuses("put(1) of an empty tape", wrong, 0, () -> k.x.put(1));
        k.feed("x".repeat(80));
        k.refuses("put(15) of 80 bytes", wrong, 0, () -> k.x.put(15));
        k.feed("x".repeat(80));
        k.refuses("put(17) of 80 bytes", wrong, 0, () -> k.x.put(17));
        k.feed("x".repeat(80));
        Check.same("put(16) of 80 bytes", k.x.put(16), 2);
        k.feed("x".repeat(16));
        Check.same("put(16) of 16 bytes", k.x.put(16), 3);
        k.x.crash(0);
        k.feed("tape");
        k.refuses("put of a closed store", IllegalStateException.class, 0, () -> k.x.put(99));
    }

    /** "keySize is not 1 to 16, or above the tape's bytes, or the value has more than 64": each of them. */
    private static void allSizes() {
        int[] sizes = {Integer.MIN_VALUE, -80, -1, 0, 1, 2, 3, 14, 15, 16, 17, 18, 80, 81, 257, Integer.MAX_VALUE};
        int[] tapes = {0, 1, 2, 14, 15, 16, 17, 18, 63, 64, 65, 66, 67, 78, 79, 80};
        for (int tape : tapes) {
            for (int size : sizes) {
                Keep k = new Keep();
                k.feed("x".repeat(tape));
                String what = "put(" + size + ") of " + tape + " bytes";
                if (size < 1 || size > 16 || size > tape || tape - size > 64) {
                    k.refuses(what, IllegalArgumentException.class, 0, () -> k.x.put(size));
                    continue;
                }
                Check.same(what, k.x.put(size), 1);
                Check.same("KSIZE by " + what, k.x.entry(0, 0), size);
                Check.same("VSIZE by " + what, k.x.entry(0, 1), tape - size);
                Check.same("bytes by " + what, k.x.file(0, 2), 14 + tape);
                Check.same("tape behind " + what, k.x.look(6), 0);
            }
        }
    }

    /** "KSIZE is 1 to 16, VSIZE 0 to 64": the least and the greatest, as they lie. */
    private static void leastAndGreatest() {
        String[][] pairs = {{"a", ""}, {"a", "v"}, {"a", "v".repeat(64)}, {"b".repeat(16), ""},
            {"b".repeat(16), "v".repeat(64)}, {"\0", "\0"}, {"\u00ff", "\u00ff"}};
        for (String[] pair : pairs) {
            Keep k = new Keep();
            k.put(pair[0], pair[1]);
            Check.same("the RECORD", Arrays.toString(k.bytes(0)), Arrays.toString(Craft.record(1, pair[0], pair[1])));
            Check.same("get", k.get(pair[0]), pair[1]);
            Check.same("keys behind an opening", k.reopen(14 + pair[0].length() + pair[1].length()), 1);
            Check.same("get behind an opening", k.get(pair[0]), pair[1]);
        }
    }

    private static final String[] KEYS = {"\0", "\0\0", "\0\1", "\1", "a", "a\0", "aa", "a\u0080", "b", "\u007f", "\u007f\u00ff",
        "\u0080", "\u0080\0", "\u00fe", "\u00ff", "\u00ff".repeat(15), "\u00ff".repeat(16)};

    /** Which of the keys has the STAMP, by the order in which they were put. */
    private static String keyOf(int stamp) {
        return KEYS[(stamp - 1) * 7 % KEYS.length];
    }

    private static void inOrder(String when, Keep k) {
        Check.same("keys " + when, k.x.look(11), KEYS.length);
        for (int i = 0; i < KEYS.length; i++) {
            Check.same("KSIZE in order " + when, k.x.entry(i, 0), KEYS[i].length());
            Check.same("STAMP in order " + when, keyOf(k.x.entry(i, 4)), KEYS[i]);
        }
    }

    /**
     * "ordered by their bytes (0 to 255), the shorter one ahead if it begins the longer one": whatever
     * value lies behind the key, on the tape, in a RECORD and where a HINT tells of it.
     */
    private static void keyOrder() {
        for (String value : new String[] {"", "\0", "a", "\u0080", "\u00ff", "\u00ff\u00ff"}) {
            Keep k = new Keep();
            for (int i = 1; i <= KEYS.length; i++) k.put(keyOf(i), value);
            inOrder("behind put()", k);
            for (int i = 0; i < KEYS.length; i++) {
                for (int j = 0; j < KEYS[i].length(); j++) Check.same("key(" + i + ", " + j + ")", k.x.key(i, j), KEYS[i].charAt(j));
            }
            k.reopen(k.x.look(5));
            inOrder("by RECORDS", k);
            k.x.mergeBegin();
            k.x.mergeStep(99);
            k.reopen(0);
            Check.same("entries READ", k.x.look(7), KEYS.length);
            inOrder("by HINTS", k);
        }
    }

    private static void full() {
        Keep k = Keep.formatted(128, 128);
        k.put("a", "x".repeat(64));
        k.put("b", "x".repeat(17));
        Check.same("ROOM", k.x.look(4), 17);
        k.feed("cdef");
        k.refuses("put of 18 bytes", UnsupportedOperationException.class, 0, () -> k.x.put(1));
        k.feed("x".repeat(80));
        k.refuses("a wrong put of a full store", IllegalArgumentException.class, 0, () -> k.x.put(1));
        Check.same("put of 17 bytes", k.put("c", "de"), 3);
        k.feed("c");
        k.refuses("put at no ROOM", UnsupportedOperationException.class, 0, () -> k.x.put(1));
        Check.same("ROOM", k.x.look(4), 0);
    }

    /** RESERVED bytes of a MERGE are none for a WRITE. */
    private static void fullByMerge() {
        Keep k = Keep.formatted(128, 128);
        k.put("a", "1");
        k.x.mergeBegin();
        Check.same("RESERVED", k.x.look(17), 16 + 23 + 12);
        Check.same("ROOM", k.x.look(4), 112);
        k.feed("b" + "x".repeat(47));
        k.refuses("put of 62 bytes", UnsupportedOperationException.class, 0, () -> k.x.put(1));
        Check.same("put of 61 bytes", k.put("b", "x".repeat(46)), 2);
        k.feed("b");
        k.refuses("remove at no ROOM", UnsupportedOperationException.class, 0, () -> k.x.remove() ? 1 : 0);
        Check.same("all units", k.x.mergeStep(99), 0);
        Check.same("files", k.files(), "2D61-0 3D16-0 3H23-0");
    }

    public static void main(String[] args) {
        record();
        newFiles();
        wrongOnes();
        allSizes();
        leastAndGreatest();
        keyOrder();
        full();
        fullByMerge();
        Check.end();
    }
}
