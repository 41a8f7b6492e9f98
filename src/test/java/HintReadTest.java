import java.util.Arrays;

/** Term 4 (d): which HINTS are GOOD, and what is READ then. */
public final class HintReadTest {
    private static final int DATA = Craft.HINTED_DATA;
    private static final String A = "a".repeat(16);
    private static final String B = "b".repeat(16);

    private static byte[] entry(int stamp, int place, int vsize, String key) {
        return Craft.entry(stamp, place, vsize, key);
    }

    private static byte[] hint(int count, byte[]... entries) {
        return Craft.hint(count, entries);
    }

    /** Files 1 and 2 have three RECORDS, file 3 has two, or as many entries as the HINT tells. */
    private static Keep open(String what, byte[] bytes, boolean isGood) {
        Keep k = Craft.hinted(bytes);
        k.x.open();
        Check.same("entries READ, " + what, k.x.look(7), isGood ? Model.four(bytes, 0) : 0);
        Check.same("RECORDS READ, " + what, k.x.look(8), isGood ? 3 : 5);
        Check.same("bytes CUT, " + what, k.x.look(9), 0);
        Check.same("files REMOVED, " + what, k.x.look(10), isGood ? 0 : 1);
        Check.same("files, " + what, k.files(), "1D112-0 2D79-0 3D112-0" + (isGood ? " 3H" + bytes.length + "-0" : ""));
        return k;
    }

    private static void good(String what, byte[] bytes) {
        open(what, bytes, true);
    }

    private static void notGood(String what, byte[] bytes) {
        Keep k = open(what, bytes, false);
        Check.same("the DIRECTORY, " + what, k.entries(), A + ":16,3,0,1 " + B + ":36,3,46,2 c:64,2,0,3");
    }

    /** "at least 8 bytes": with fewer the last 4 may well be the SUM of those ahead. */
    private static void tooFewBytes() {
        for (int n = 1; n < 8; n++) {
            notGood(n + " bytes 0", new byte[n]);
            if (n >= 4) notGood(n + " bytes with a right SUM", Model.summed(new byte[n - 4]));
        }
        good("8 bytes", hint(0));
    }

    /** "between the first 4 and these just as many whole entries as the first 4 tell (none is fine)". */
    private static void numberOfEntries() {
        byte[] a = entry(1, 0, 16, A);
        byte[] b = entry(2, 46, 36, B);
        int[] counts = {Integer.MIN_VALUE, -2, -1, 0, 1, 2, 3, 256, 65536, Integer.MAX_VALUE};
        byte[][][] rows = {{}, {a}, {a, b}};
        for (byte[][] row : rows) {
            for (int count : counts) {
                String what = row.length + " entries, " + count + " told";
                if (count == row.length) good(what, hint(count, row));
                else notGood(what, hint(count, row));
            }
        }
    }

    /** "whole entries": the last one ends n bytes early, ahead of the SUM. */
    private static void notWhole() {
        byte[] a = entry(1, 0, 16, A);
        byte[] b = entry(2, 46, 36, B);
        for (int n = 1; n < b.length; n++) {
            byte[] part = Arrays.copyOf(b, n);
            notGood(n + " bytes of a first entry, 1 told", hint(1, part));
            notGood(n + " bytes of a first entry, 0 told", hint(0, part));
            notGood(n + " bytes of a second entry, 2 told", hint(2, a, part));
            notGood(n + " bytes of a second entry, 1 told", hint(1, a, part));
        }
    }

    /** "the last 4 the SUM of those ahead": each bit counts. */
    private static void sums() {
        byte[] whole = hint(2, entry(1, 0, 1, "a"), entry(2, 46, 0, "b"));
        good("all bits as they were", whole);
        for (int bit = 0; bit < 8 * whole.length; bit++) {
            byte[] other = whole.clone();
            other[bit / 8] ^= (byte) (1 << (bit % 8));
            notGood("another bit " + bit, other);
        }
    }

    /** "each with a STAMP .. as told", 1 to 1000000000: of the first entry and of the last. */
    private static void stamps() {
        byte[] other = entry(7, 0, 0, "d");
        int[] wrong = {Integer.MIN_VALUE, -1, 0, 1000000001, Integer.MAX_VALUE};
        for (int stamp : wrong) {
            notGood("STAMP " + stamp, hint(2, entry(stamp, 0, 0, "e"), other));
            notGood("the last STAMP " + stamp, hint(2, other, entry(stamp, 0, 0, "e")));
        }
        int[] right = {1, 2, 999999999, 1000000000};
        for (int stamp : right) {
            Keep k = open("STAMP " + stamp, hint(2, entry(stamp, 0, 0, "e"), other), true);
            Check.same("the next STAMP", k.x.look(12), Math.max(stamp, 7) + 1);
            good("the last STAMP " + stamp, hint(2, other, entry(stamp, 0, 0, "e")));
        }
    }

    /** "each with a .. KSIZE .. as told", 1 to 16; all else is right. */
    private static void keySizes() {
        byte[] other = entry(7, 0, 0, "d".repeat(15));
        notGood("KSIZE 0", hint(2, entry(8, 0, 0, ""), other));
        notGood("the last KSIZE 0", hint(2, other, entry(8, 0, 0, "")));
        notGood("KSIZE 17", hint(2, entry(8, 0, 0, "e".repeat(17)), other));
        notGood("the last KSIZE 17", hint(2, other, entry(8, 0, 0, "e".repeat(17))));
        notGood("KSIZE 256", hint(1, Craft.entry(8, 0, 256, 0, "")));
        notGood("KSIZE 257", hint(1, Craft.entry(8, 0, 257, 0, "e")));
        notGood("KSIZE 65535", hint(1, Craft.entry(8, 0, 65535, 0, "e")));
        int[] right = {1, 2, 15, 16};
        for (int size : right) good("KSIZE " + size, hint(2, entry(8, 0, 0, "e".repeat(size)), other));
    }

    /** "each with a .. VSIZE as told", -1 to 64; the RECORD would end within the DATA file by 66 too. */
    private static void valueSizes() {
        byte[] other = entry(7, 0, 0, "d");
        int[] wrong = {Integer.MIN_VALUE, -15, -2, 65, 66, 256, Integer.MAX_VALUE};
        for (int size : wrong) {
            notGood("VSIZE " + size, hint(2, entry(8, 0, size, "e"), other));
            notGood("the last VSIZE " + size, hint(2, other, entry(8, 0, size, "e")));
        }
        int[] right = {-1, 0, 1, 63, 64};
        for (int size : right) good("VSIZE " + size, hint(2, entry(8, 0, size, "e"), other));
    }

    /** "a PLACE not below 0 with which a RECORD of these sizes would end within the DATA file". */
    private static void places() {
        int[][] sizes = {{1, -1}, {1, 0}, {1, 1}, {1, 64}, {16, -1}, {16, 64}};
        for (int[] s : sizes) {
            String key = "e".repeat(s[0]);
            int last = DATA - 14 - s[0] - Math.max(0, s[1]);
            int[] right = {0, 1, last - 1, last};
            for (int place : right) {
                Keep k = open("PLACE " + place, hint(1, entry(8, place, s[1], key)), true);
                Check.same("keys", k.x.look(11), s[1] < 0 ? 3 : 4);
            }
            int[] wrong = {-1, last + 1, DATA, Integer.MIN_VALUE, Integer.MAX_VALUE - 14, Integer.MAX_VALUE};
            for (int place : wrong) notGood("PLACE " + place, hint(1, entry(8, place, s[1], key)));
            notGood("the last PLACE " + (last + 1), hint(2, entry(7, 0, 0, "d"), entry(8, last + 1, s[1], key)));
        }
    }

    /** A GOOD HINT is preferred: the DATA file is not READ, and not CUT. */
    private static void preferred() {
        Keep k = Craft.hinted(hint(2, entry(9, 5, 3, "e"), entry(8, 46, -1, "c")));
        k.x.patch(2, 0, ~k.x.byteOf(2, 0));
        Check.same("keys", k.x.open(), 3);
        Check.same("files", k.files(), "1D112-0 2D79-0 3D112-0 3H38-0");
        Check.same("the DIRECTORY", k.entries(), A + ":16,1,0,1 " + B + ":36,1,46,2 e:3,3,5,9");
        Check.same("the next STAMP", k.x.look(12), 10);
        Check.same("get of what is not at its PLACE", k.get("e"), "-2");
        Check.same("bad()", k.x.bad(), 1);
    }

    /** "Else the HINT .. is REMOVED, and the RECORDS of the file are READ": and CUT, and REMOVED too. */
    private static void notGoodAndTorn() {
        Keep k = Craft.hinted(new byte[1]);
        k.x.patch(2, 46, ~k.x.byteOf(2, 46));
        k.x.open();
        Check.same("files", k.files(), "1D112-0 2D79-0 3D46-0");
        Check.same("bytes CUT", k.x.look(9), 66);
        Check.same("files REMOVED", k.x.look(10), 1);
        k = Craft.hinted(new byte[1]);
        k.x.patch(2, 0, ~k.x.byteOf(2, 0));
        k.x.open();
        Check.same("files", k.files(), "1D112-0 2D79-0");
        Check.same("bytes CUT", k.x.look(9), 112);
        Check.same("files REMOVED", k.x.look(10), 2);
        Check.same("the next NUMBER", k.x.look(13), 4);
    }

    /** What a crash leaves of a HINT that comes unsynced, byte by byte: GOOD only if it is all there. */
    private static void tornByCrash() {
        for (int n = 0; n <= 68; n++) {
            Keep k = Craft.copied();
            Check.same("keys, " + n + " bytes of the HINT", k.reopen(DATA + n), 3);
            Check.same("entries READ, " + n + " bytes", k.x.look(7), n == 68 ? 2 : 0);
            Check.same("files REMOVED, " + n + " bytes", k.x.look(10), n == 0 || n == 68 ? 0 : 1);
        }
    }

    public static void main(String[] args) {
        tooFewBytes();
        numberOfEntries();
        notWhole();
        sums();
        stamps();
        keySizes();
        valueSizes();
        places();
        preferred();
        notGoodAndTorn();
        tornByCrash();
        Check.end();
    }
}
