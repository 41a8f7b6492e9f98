import java.util.Arrays;

/** Term 3, promises 11 and 12 at their edges: ROOM and NEED, FILEMOST, units, what is passed over. */
public final class MergeEdgesTest {
    private static final Class<UnsupportedOperationException> FULL = UnsupportedOperationException.class;

    /** Each value under a key of its own (a, b, ..), each in an INPUT of its own. */
    private static Keep inputs(int capacity, int fileMost, int... valueSizes) {
        Keep k = Keep.formatted(capacity, fileMost);
        for (int i = 0; i < valueSizes.length; i++) {
            k.put(Character.toString((char) ('a' + i)), "x".repeat(valueSizes[i]));
            k.reopen(k.x.look(5));
        }
        return k;
    }

    private static int fileBytes(Keep k) {
        return k.x.look(1) - k.x.look(4);
    }

    /** "0, and nothing is done, if there is no DATA file". */
    private static void noData() {
        Keep k = new Keep();
        String before = k.all();
        Check.same("mergeBegin() of a new store", k.x.mergeBegin(), 0);
        Check.same("what can be seen", k.all(), before);
        k.put("a", "");
        k.x.mergeBegin();
        k.x.mergeStep(1);
        k.remove("a");
        k.x.mergeStep(9);
        k.x.mergeBegin();
        k.x.mergeStep(99);
        Check.same("files", k.files(), "");
        before = k.all();
        Check.same("mergeBegin() when all is gone", k.x.mergeBegin(), 0);
        Check.same("what can be seen", k.all(), before);
        Check.isThrown("mergeStep(1)", IllegalStateException.class, () -> k.x.mergeStep(1));
        Check.same("put goes on with NUMBERS and STAMPS", k.put("b", ""), 3);
        Check.same("mergeBegin() with one DATA file", k.x.mergeBegin(), 4);
    }

    /** "ROOM is below NEED": one less, just as many, one more; nothing is done if it is. */
    private static void roomOfNeed(String what, int fileMost, int used, int need, int... valueSizes) {
        for (int more = -1; more <= 1; more++) {
            Keep k = inputs(used + need + more, fileMost, valueSizes);
            k.feed("tape");
            Check.same("ROOM, " + what, k.x.look(4), need + more);
            if (more < 0) {
                k.refuses("mergeBegin(), " + what, FULL, 4, k.x::mergeBegin);
                Check.isThrown("mergeStep(1), " + what, IllegalStateException.class, () -> k.x.mergeStep(1));
                continue;
            }
            int units = 2 * valueSizes.length + 2;
            Check.same("mergeBegin(), " + what, k.x.mergeBegin(), units);
            Check.same("RESERVED, " + what, k.x.look(17), need);
            Check.same("COPIES and FINISH, " + what, k.x.mergeStep(valueSizes.length + 1), valueSizes.length + 1);
            Check.same("ROOM behind FINISH, " + what, k.x.look(4), more);
            Check.same("the REMOVALS, " + what, k.x.mergeStep(units), 0);
        }
    }

    private static void needs() {
        roomOfNeed("one RECORD", 128, 79, 79 + 8 + 15 + 12, 64);
        roomOfNeed("two in one OUTPUT", 4096, 158, 158 + 8 + 30 + 16, 64, 64);
        roomOfNeed("two in two OUTPUTS", 128, 158, 158 + 16 + 30 + 16, 64, 64);
        roomOfNeed("just FILEMOST", 128, 128, 128 + 8 + 30 + 16, 49, 49);
        roomOfNeed("one more than FILEMOST", 128, 129, 129 + 16 + 30 + 16, 49, 50);
        roomOfNeed("one less than FILEMOST", 128, 127, 127 + 8 + 30 + 16, 49, 48);
        roomOfNeed("FILEMOST twice", 128, 256, 256 + 16 + 60 + 24, 49, 49, 49, 49);
        roomOfNeed("FILEMOST and a small one", 128, 143, 143 + 16 + 45 + 20, 49, 49, 0);
    }

    /** No RECORD is LIVE: NEED is the MARK alone. */
    private static void needOfTheMark() {
        for (int more = -1; more <= 1; more++) {
            Keep k = Keep.formatted(200, 4096);
            k.fill(200 - 15 - 12 - more);
            k.remove("k");
            Check.same("ROOM", k.x.look(4), 12 + more);
            if (more < 0) {
                k.refuses("mergeBegin() without a key", FULL, 0, k.x::mergeBegin);
                Check.same("ACTIVE stays", k.x.look(14), 1);
                continue;
            }
            Check.same("mergeBegin() without a key", k.x.mergeBegin(), 3);
            Check.same("FINISH", k.x.mergeStep(1), 2);
            Check.same("files", k.files(), "1D" + (200 - 12 - more) + "-0 2M12-0");
        }
    }

    /** RESERVED is NEED less what came, at each unit; all of it came when FINISH is done. */
    private static void reserved(int fileMost, int... valueSizes) {
        Keep k = inputs(16384, fileMost, valueSizes);
        int before = fileBytes(k);
        int units = k.x.mergeBegin();
        int need = k.x.look(17);
        Check.same("units", units, 2 * valueSizes.length + 2);
        for (int done = 1; done <= valueSizes.length; done++) {
            Check.same("units left", k.x.mergeStep(1), units - done);
            Check.same("RESERVED", k.x.look(17), need - (fileBytes(k) - before));
        }
        k.x.mergeStep(1);
        Check.same("bytes behind FINISH", fileBytes(k), before + need);
        Check.same("RESERVED behind FINISH", k.x.look(17), 0);
    }

    /** "if it would have more than FILEMOST bytes with the RECORD": one less, just as many, one more. */
    private static void outputs() {
        for (int most = 128; most <= 140; most++) {
            for (int more = -1; more <= 1; more++) {
                int second = most + more - 79;
                Keep k = inputs(4096, most, 64, second - 15);
                k.x.mergeBegin();
                k.x.mergeStep(2);
                String due = more > 0 ? "3D79-79 3H23-23 4D" + second + "-" + second : "3D" + (79 + second) + "-" + (79 + second);
                Check.same("files, FILEMOST " + most, k.files(), "1D79-0 2D" + second + "-0 " + due);
                Check.same("the OUTPUT, FILEMOST " + most, k.x.look(15), more > 0 ? 4 : 3);
            }
        }
        Keep just = inputs(4096, 128, 49, 49, 0);
        just.x.mergeBegin();
        just.x.mergeStep(2);
        Check.same("just FILEMOST", just.files(), "1D64-0 2D64-0 3D15-0 4D128-128");
        just.x.mergeStep(1);
        Check.same("the next one", just.files(), "1D64-0 2D64-0 3D15-0 4D128-128 4H38-38 5D15-15");
        Keep above = inputs(4096, 128, 49, 50, 48);
        above.x.mergeBegin();
        above.x.mergeStep(2);
        Check.same("one more", above.files(), "1D64-0 2D65-0 3D63-0 4D64-64 4H23-23 5D65-65");
        above.x.mergeStep(1);
        Check.same("just FILEMOST again", above.files(), "1D64-0 2D65-0 3D63-0 4D64-64 4H23-23 5D128-128");
    }

    /** "(all, if there are fewer)": each n around the number of units, and far above. */
    private static void steps() {
        int[] numbers = {1, 2, 3, 4, 5, 6, 7, 8, 9, 10, 1000, Integer.MAX_VALUE};
        for (int n : numbers) {
            Keep k = inputs(4096, 128, 64, 64, 0);
            Check.same("mergeBegin()", k.x.mergeBegin(), 8);
            Check.same("mergeStep(" + n + ")", k.x.mergeStep(n), Math.max(0, 8 - n));
            Check.same("look(16)", k.x.look(16), Math.max(0, 8 - n));
            if (n >= 8) Check.isThrown("mergeStep(1) when it is over", IllegalStateException.class, () -> k.x.mergeStep(1));
            Keep single = inputs(4096, 128, 64, 64, 0);
            single.x.mergeBegin();
            for (int i = 0; i < Math.min(n, 8); i++) single.x.mergeStep(1);
            Check.same("as so many single units", single.all(), k.all());
        }
        int[] wrong = {Integer.MIN_VALUE, -8, -1, 0};
        for (int n : wrong) {
            Keep k = inputs(4096, 128, 64);
            k.x.mergeBegin();
            k.refuses("mergeStep(" + n + ")", IllegalArgumentException.class, 0, () -> k.x.mergeStep(n));
            Check.same("mergeStep(1) behind it", k.x.mergeStep(1), 3);
        }
    }

    /** "a MERGE is under way": from its beginning, through FINISH and REMOVALS, up to its last unit. */
    private static void underWay() {
        Keep k = inputs(4096, 512, 0, 0);
        for (int left = k.x.mergeBegin(); left > 0; left = k.x.mergeStep(1)) {
            Check.same("units left", k.x.look(16), left);
            k.refuses("mergeBegin() with " + left + " units left", IllegalStateException.class, 0, k.x::mergeBegin);
        }
        Check.same("a next MERGE", k.x.mergeBegin(), 2 + 1 + 1 + 1);
    }

    /** All that was to be copied is not LIVE any more: FINISH is next, with no OUTPUT and no HINT. */
    private static void allPassedOver() {
        Keep k = inputs(4096, 512, 1, 2, 3);
        Check.same("mergeBegin()", k.x.mergeBegin(), 8);
        int need = k.x.look(17);
        k.put("a", "new");
        Check.same("units left", k.x.look(16), 7);
        k.remove("b");
        Check.same("units left", k.x.look(16), 6);
        k.remove("c");
        k.put("c", "xxx");
        Check.same("units left", k.x.look(16), 5);
        Check.same("RESERVED", k.x.look(17), need);
        Check.same("OUTPUT", k.x.look(15), -1);
        Check.same("FINISH", k.x.mergeStep(1), 4);
        Check.same("files", k.files(), "1D16-0 2D17-0 3D18-0 4D66-0 5M20-0");
        Check.same("the MARK", Arrays.toString(k.bytes(4)), Arrays.toString(Craft.mark(3, 1, 2, 3)));
        Check.same("the REMOVALS", k.x.mergeStep(4), 0);
        Check.same("files", k.files(), "4D66-0");
        Check.same("the DIRECTORY", k.entries(), "a:3,4,0,4 c:3,4,48,7");
    }

    /** Those that are passed over are no units, wherever they lie: the first, the middle, the last. */
    private static void somePassedOver() {
        for (int gone = 0; gone < 3; gone++) {
            Keep k = inputs(4096, 512, 1, 2, 3);
            k.x.mergeBegin();
            k.remove(Character.toString((char) ('a' + gone)));
            Check.same("units left", k.x.look(16), 7);
            Check.same("one unit", k.x.mergeStep(1), 6);
            Check.same("the OUTPUT's bytes", k.x.file(4, 2), gone == 0 ? 17 : 16);
            Check.same("one more", k.x.mergeStep(1), 5);
            Check.same("the OUTPUT's bytes", k.x.file(4, 2), 16 + 17 + 18 - 16 - gone);
            Check.same("FINISH", k.x.mergeStep(1), 4);
            Check.same("the HINT's entries", Model.four(k.bytes(5), 0), 2);
        }
    }

    /** Less is copied than was to be: what fits into an OUTPUT is seen from what comes. */
    private static void otherOutputs() {
        Keep k = inputs(4096, 128, 49, 10, 49);
        k.x.mergeBegin();
        Check.same("RESERVED", k.x.look(17), 64 + 25 + 64 + 45 + 16 + 20);
        k.remove("b");
        k.x.mergeStep(3);
        Check.same("files", k.files(), "1D64-0 2D25-0 3D64-0 4D15-0 5D128-0 5H38-0 6M20-0");
        Check.same("RESERVED", k.x.look(17), 0);
    }

    /** INPUTS are the DATA files that there are at the beginning: none that comes later. */
    private static void inputsOfThen() {
        Keep k = inputs(4096, 128, 0, 0);
        k.x.mergeBegin();
        for (int i = 0; i < 3; i++) k.put("n" + i, "x".repeat(64));
        Check.same("units", k.x.look(16), 6);
        Check.same("COPIES and FINISH", k.x.mergeStep(3), 3);
        k.put("n3", "x".repeat(64));
        Check.same("units", k.x.look(16), 3);
        Check.same("files", k.files(), "1D15-0 2D15-0 3D80-0 4D80-0 5D80-0 6D30-0 6H38-0 7M16-0 8D80-80");
        Check.same("an INPUT", k.x.mergeStep(1), 2);
        Check.same("files", k.files(), "2D15-0 3D80-0 4D80-0 5D80-0 6D30-0 6H38-0 7M16-0 8D80-80");
        Check.same("an INPUT", k.x.mergeStep(1), 1);
        Check.same("the MARK", k.x.mergeStep(1), 0);
        Check.same("files", k.files(), "3D80-0 4D80-0 5D80-0 6D30-0 6H38-0 8D80-80");
        Check.same("keys", k.reopen(80), 6);
    }

    /** WRITES while the REMOVALS go on: the copies may be overwritten, no unit is more or less. */
    private static void writesInRemovals() {
        Keep k = inputs(4096, 512, 0, 0);
        k.x.mergeBegin();
        k.x.mergeStep(3);
        k.put("a", "new");
        Check.same("units", k.x.look(16), 3);
        k.remove("b");
        Check.same("units", k.x.mergeStep(2), 1);
        Check.same("RESERVED", k.x.look(17), 0);
        Check.same("the last unit", k.x.mergeStep(1), 0);
        Check.same("the DIRECTORY", k.entries(), "a:3,5,0,3");
        Check.same("keys behind a crash", k.reopen(0), 2);
    }

    /** "by their NUMBERS then, those of one NUMBER by PLACE": NUMBERS from 10 on, PLACES above 255. */
    private static void order() {
        Keep k = Keep.formatted(16384, 512);
        String[] keys = new String[12];
        for (int i = 0; i < 12; i++) {
            keys[i] = Character.toString((char) ('z' - i));
            k.put(keys[i], "x".repeat(i));
            if (i < 10) k.reopen(15 + i);
        }
        for (int i = 0; i < 5; i++) k.put("k" + i, "x".repeat(64));
        k.x.mergeBegin();
        k.x.mergeStep(12);
        int place = 0;
        for (int i = 0; i < 12; i++) {
            Check.same("PLACE of copy " + i, k.x.entry(k.x.look(11) - 1 - i, 3), place);
            place += 15 + i;
        }
        k.x.mergeStep(99);
        Check.same("bad()", k.x.bad(), 0);
    }

    public static void main(String[] args) {
        noData();
        needs();
        needOfTheMark();
        reserved(128, 64, 64, 64, 0, 0, 10, 64);
        reserved(128, 49, 49, 49, 49);
        reserved(4096, 1, 2, 3, 4, 5);
        outputs();
        steps();
        underWay();
        allPassedOver();
        somePassedOver();
        otherOutputs();
        inputsOfThen();
        writesInRemovals();
        order();
        Check.end();
    }
}
