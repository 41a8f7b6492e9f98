import java.util.Arrays;

/** Term 4 (d): the RECORDS of a DATA file without a GOOD HINT, up to the first that isn't whole. */
public final class RecordReadTest {
    private static final byte[] FIRST = Craft.record(1, "a", "1");
    private static final byte[] THIRD = Craft.record(3, "c", "3");

    private static void opened(String what, Keep k, int records, int cut, int removed) {
        Check.same("RECORDS READ, " + what, k.x.look(8), records);
        Check.same("bytes CUT, " + what, k.x.look(9), cut);
        Check.same("files REMOVED, " + what, k.x.look(10), removed);
    }

    /** Of three RECORDS the second one is READ, and so the third; else the file is CUT ahead of it. */
    private static void second(String what, byte[] second, boolean isWhole) {
        Keep k = Craft.data(Model.join(FIRST, second, THIRD));
        k.x.open();
        int rest = second.length + THIRD.length;
        opened(what, k, isWhole ? 3 : 1, isWhole ? 0 : rest, 0);
        Check.same("files, " + what, k.files(), "1D" + (isWhole ? FIRST.length + rest : FIRST.length) + "-0");
    }

    /** "STAMPS are 1 to 1000000000." */
    private static void stamps() {
        int[] wrong = {Integer.MIN_VALUE, -1000000000, -1, 0, 1000000001, Integer.MAX_VALUE};
        for (int stamp : wrong) second("STAMP " + stamp, Craft.record(stamp, "b", "2"), false);
        int[] right = {1, 2, 999999999, 1000000000};
        for (int stamp : right) second("STAMP " + stamp, Craft.record(stamp, "b", "2"), true);
    }

    /** "KSIZE is 1 to 16", a number from 0 to 65535. */
    private static void keySizes() {
        second("KSIZE 0", Craft.record(2, "", "2".repeat(16)), false);
        second("KSIZE 0 and no value", Craft.record(2, "", ""), false);
        second("KSIZE 17", Craft.record(2, "b".repeat(17), ""), false);
        second("KSIZE 17 of a REMOVAL", Craft.removal(2, "b".repeat(17)), false);
        int[] far = {18, 256, 257, 256 + 16, 32767, 32768, 32769, 65535};
        for (int size : far) second("KSIZE " + size, Craft.record(2, size, 0, "b"), false);
        int[] right = {1, 2, 15, 16};
        for (int size : right) {
            second("KSIZE " + size, Craft.record(2, "b".repeat(size), "2"), true);
            second("KSIZE " + size + " of a REMOVAL", Craft.removal(2, "b".repeat(size)), true);
        }
    }

    /** "VSIZE 0 to 64, or -1: a REMOVAL, which has no value." */
    private static void valueSizes() {
        second("VSIZE 65", Craft.record(2, "b", "2".repeat(65)), false);
        int[] far = {Integer.MIN_VALUE, -3, -2, 66, 256, 65536, Integer.MAX_VALUE};
        for (int size : far) second("VSIZE " + size, Craft.record(2, 1, size, "b"), false);
        int[] right = {0, 1, 63, 64};
        for (int size : right) second("VSIZE " + size, Craft.record(2, "b", "2".repeat(size)), true);
        second("VSIZE -1", Craft.removal(2, "b"), true);
        second("the least RECORD", Craft.record(2, "b", ""), true);
        second("the greatest RECORD", Craft.record(2, "b".repeat(16), "2".repeat(64)), true);
    }

    /** "or a wrong SUM": each bit of a RECORD counts. */
    private static void sums() {
        byte[] whole = Craft.record(2, "bb", "22");
        for (int bit = 0; bit < 8 * whole.length; bit++) {
            byte[] other = whole.clone();
            other[bit / 8] ^= (byte) (1 << (bit % 8));
            second("a RECORD with another bit " + bit, other, false);
        }
    }

    /** "too few bytes": the second RECORD ends behind n of its bytes, which are the file's last. */
    private static void tooFew() {
        byte[][] seconds = {Craft.record(2, "bb", "22"), Craft.removal(2, "bb")};
        for (byte[] second : seconds) {
            for (int n = 0; n <= second.length; n++) {
                Keep k = Craft.data(Model.join(FIRST, Arrays.copyOf(second, n)));
                k.x.open();
                boolean isWhole = n == second.length;
                opened(n + " bytes of a RECORD", k, isWhole ? 2 : 1, isWhole ? 0 : n, 0);
                Check.same("files, " + n + " bytes", k.files(), "1D" + (FIRST.length + (isWhole ? n : 0)) + "-0");
            }
        }
    }

    /** "it keeps what is ahead; if that is nothing, it is REMOVED". */
    private static void cutToNothing() {
        byte[] whole = Craft.record(1, "a", "");
        for (int n = 1; n <= 15; n++) {
            Keep k = Craft.data(Arrays.copyOf(whole, n));
            boolean isWhole = n == 15;
            Check.same("keys of " + n + " bytes", k.x.open(), isWhole ? 1 : 0);
            opened(n + " bytes", k, isWhole ? 1 : 0, isWhole ? 0 : n, isWhole ? 0 : 1);
            Check.same("files of " + n + " bytes", k.files(), isWhole ? "1D15-0" : "");
            Check.same("ROOM of " + n + " bytes", k.x.look(4), isWhole ? 16384 - 15 : 16384);
        }
    }

    /** "Each DATA file in its order": also those behind one that was REMOVED. */
    private static void eachFile() {
        byte[] torn = Craft.record(1, 17, 0, "b");
        byte[] half = Model.join(FIRST, torn);
        Keep k = Craft.data(torn, FIRST, torn, torn, half, THIRD, torn);
        Check.same("keys", k.x.open(), 2);
        opened("seven files", k, 3, 5 * torn.length, 4);
        Check.same("files", k.files(), "2D16-0 5D16-0 6D16-0");
        Check.same("the DIRECTORY", k.entries(), "a:1,5,0,1 c:1,6,0,3");
        Check.same("the next NUMBER", k.x.look(13), 8);
        Check.same("once more", k.reopen(0), 2);
        opened("three files", k, 3, 0, 0);
        Check.same("the next NUMBER", k.x.look(13), 7);
    }

    /** What is behind a RECORD that isn't whole is not READ: neither its key nor its STAMP. */
    private static void behindTorn() {
        Keep k = Craft.data(Model.join(FIRST, Craft.record(0, "b", ""), Craft.record(9, "a", "9")));
        Check.same("keys", k.x.open(), 1);
        Check.same("the DIRECTORY", k.entries(), "a:1,1,0,1");
        Check.same("the next STAMP", k.x.look(12), 2);
        Check.same("the next WRITE is in a new file", k.put("b", ""), 2);
        Check.same("files", k.files(), "1D16-0 2D15-15");
    }

    public static void main(String[] args) {
        stamps();
        keySizes();
        valueSizes();
        sums();
        tooFew();
        cutToNothing();
        eachFile();
        behindTorn();
        Check.end();
    }
}
