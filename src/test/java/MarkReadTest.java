/** Term 4 (b): which MARKS are obeyed, and what of the disk is REMOVED then. */
public final class MarkReadTest {
    /** Files 1 and 2, their OUTPUT 3 with a HINT, the MARK 4. */
    private static void opened(String what, byte[] mark, int removed, String files) {
        Keep k = Craft.marked(2, mark);
        k.x.open();
        Check.same("files REMOVED, " + what, k.x.look(10), removed);
        Check.same("files, " + what, k.files(), files);
        Check.same("the next NUMBER, " + what, k.x.look(13), 5);
        Check.same("bytes CUT, " + what, k.x.look(9), 0);
    }

    private static void notGood(String what, byte[] mark) {
        opened(what, mark, 1, "1D16-0 2D16-0 3D32-0 3H40-0");
    }

    /** "if it has just as many bytes as its first 4 tell (4 times that number and 8; at least 8)". */
    private static void numberOfNumbers() {
        opened("2 told", Craft.mark(2, 1, 2), 3, "3D32-0 3H40-0");
        int[] wrong = {Integer.MIN_VALUE, -2, -1, 0, 1, 3, 4, 256 + 2, Integer.MAX_VALUE};
        for (int count : wrong) notGood(count + " told", Craft.mark(count, 1, 2));
        // Four times these have the lowest 32 bits of four times 2.
        int[] wrapped = {0x40000002, 0x80000002, 0xC0000002};
        for (int count : wrapped) notGood(count + " told", Craft.mark(count, 1, 2));
    }

    private static void ofOtherSizes() {
        for (int inputs = 1; inputs <= 4; inputs++) {
            int[] numbers = new int[inputs];
            for (int i = 0; i < inputs; i++) numbers[i] = i + 1;
            for (int told = inputs - 1; told <= inputs + 1; told++) {
                Keep k = Craft.marked(inputs, Craft.mark(told, numbers));
                Check.same("keys of " + inputs + " INPUTS, " + told + " told", k.x.open(), inputs);
                Check.same("files REMOVED, " + told + " told", k.x.look(10), told == inputs ? inputs + 1 : 1);
                Check.same("files, " + told + " told", k.x.look(3), told == inputs ? 2 : inputs + 2);
            }
        }
    }

    /** "and the last 4 are the SUM of those ahead": each bit counts. */
    private static void sums() {
        byte[] whole = Craft.mark(2, 1, 2);
        for (int bit = 0; bit < 8 * whole.length; bit++) {
            byte[] other = whole.clone();
            other[bit / 8] ^= (byte) (1 << (bit % 8));
            notGood("another bit " + bit, other);
        }
    }

    /** "the DATA files and HINTS of its NUMBERS are REMOVED": those that there are. */
    private static void numbers() {
        opened("2 and 1", Craft.mark(2, 2, 1), 3, "3D32-0 3H40-0");
        opened("1 twice", Craft.mark(2, 1, 1), 2, "2D16-0 3D32-0 3H40-0");
        opened("1 and its own", Craft.mark(2, 1, 4), 2, "2D16-0 3D32-0 3H40-0");
        opened("3, with its HINT", Craft.mark(2, 3, 3), 3, "1D16-0 2D16-0");
        opened("2 and 3", Craft.mark(2, 2, 3), 4, "1D16-0");
        int[] none = {Integer.MIN_VALUE, -1, 0, 5, 257, 65537, 16777217, Integer.MAX_VALUE};
        for (int number : none) {
            opened("2 and " + number, Craft.mark(2, 2, number), 2, "1D16-0 3D32-0 3H40-0");
            opened(number + " and 2", Craft.mark(2, number, 2), 2, "1D16-0 3D32-0 3H40-0");
            opened("only " + number, Craft.mark(2, number, number), 1, "1D16-0 2D16-0 3D32-0 3H40-0");
        }
    }

    /** The SUM is none of the NUMBERS: here it is 2, as file 2 has it. */
    private static void sumIsNoNumber() {
        byte[] mark = Craft.mark(2, 1, 0xC1BCAF68);
        Check.same("the SUM", Model.four(mark, 12), 2);
        opened("a SUM of 2", mark, 2, "2D16-0 3D32-0 3H40-0");
    }

    /** All DATA files go by the MARK: no key is left, but the next NUMBER counts them. */
    private static void allGone() {
        Keep k = Craft.marked(1, Craft.mark(1, 2));
        Check.same("keys", k.x.open(), 1);
        Check.same("files", k.files(), "1D16-0");
        k = Craft.marked(2, Craft.mark(2, 1, 2));
        k.x.patch(2, 0, ~k.x.byteOf(2, 0));
        k.x.patch(3, 0, ~k.x.byteOf(3, 0));
        Check.same("keys", k.x.open(), 0);
        Check.same("files", k.files(), "");
        Check.same("files REMOVED", k.x.look(10), 5);
        Check.same("bytes CUT", k.x.look(9), 32);
        Check.same("ROOM", k.x.look(4), 4096);
        Check.same("the next NUMBER", k.x.look(13), 5);
        Check.same("the next STAMP", k.x.look(12), 1);
    }

    /** A MARK that is the disk's only file: its NUMBERS name none any more, but it is REMOVED. */
    private static void alone() {
        Keep k = new Keep();
        k.put("a", "");
        k.remove("a");
        k.x.mergeBegin();
        Check.same("FINISH and the INPUT", k.x.mergeStep(2), 1);
        Check.same("crash(0)", k.x.crash(0), 0);
        Check.same("files", k.files(), "2M12-0");
        Check.same("keys", k.x.open(), 0);
        Check.same("files", k.files(), "");
        Check.same("files REMOVED", k.x.look(10), 1);
        Check.same("ROOM", k.x.look(4), 4096);
        Check.same("the next NUMBER", k.x.look(13), 3);
        Check.same("the next STAMP", k.x.look(12), 1);
    }

    /** A MARK that is there behind a part of the REMOVALS: the opening does the others. */
    private static void finishes() {
        for (int done = 0; done <= 4; done++) {
            Keep k = new Keep();
            for (int i = 0; i < 3; i++) {
                k.put("k" + i, "");
                k.reopen(16);
            }
            k.x.mergeBegin();
            k.x.mergeStep(4 + done);
            Check.same("keys behind " + done + " REMOVALS", k.reopen(0), 3);
            Check.same("files REMOVED", k.x.look(10), done == 4 ? 0 : 4 - done);
            Check.same("files", k.files(), "4D48-0 4H56-0");
            Check.same("the next NUMBER", k.x.look(13), done == 4 ? 5 : 6);
        }
    }

    public static void main(String[] args) {
        numberOfNumbers();
        ofOtherSizes();
        sums();
        numbers();
        sumIsNoNumber();
        allGone();
        alone();
        finishes();
        Check.end();
    }
}
