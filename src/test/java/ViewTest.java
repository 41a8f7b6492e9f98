/** Promises 14, 15, 16, 17 and 19. */
public final class ViewTest {
    private static final int[] FAR = {Integer.MIN_VALUE, -2, -1, 1000, Integer.MAX_VALUE};

    /** DATA files 1 and 2, the OUTPUT 3 with its HINT, the OUTPUT 4, the ACTIVE file 5. */
    private static Keep busy() {
        Keep k = Keep.formatted(2048, 128);
        k.put("a", "x".repeat(64));
        k.put("bb", "y".repeat(64));
        k.x.sync();
        k.x.mergeBegin();
        k.x.mergeStep(2);
        k.put("c\u00fe", "zz");
        return k;
    }

    private static void file() {
        Keep k = busy();
        int[][] due = {{1, 0, 79, 0}, {2, 0, 80, 0}, {3, 0, 79, 79}, {3, 1, 23, 23}, {4, 0, 80, 80}, {5, 0, 18, 18}};
        for (int f = 0; f < due.length; f++) {
            for (int what = 0; what < 4; what++) Check.same("file(" + f + ", " + what + ")", k.x.file(f, what), due[f][what]);
            Check.same("file(" + f + ", 4)", k.x.file(f, 4), -1);
            for (int far : FAR) Check.same("file of another what", k.x.file(f, far), -1);
        }
        Check.same("file(6, 0)", k.x.file(6, 0), -1);
        for (int far : FAR) Check.same("file far off", k.x.file(far, 0), -1);
        k.x.crash(80);
        Check.same("file of a closed store", k.files(), "1D79-0 2D80-0 3D79-0 3H1-0");
    }

    private static void byteOf() {
        Keep k = busy();
        Check.same("a byte of the key", k.x.byteOf(0, 14), 'a');
        Check.same("the last byte", k.x.byteOf(1, 79), 'y');
        Check.same("a byte above 127", k.x.byteOf(5, 15), 254);
        Check.same("a byte of a HINT", k.x.byteOf(3, 3), 1);
        Check.same("behind the last byte", k.x.byteOf(1, 80), -1);
        Check.same("behind the last file", k.x.byteOf(6, 0), -1);
        for (int far : FAR) {
            Check.same("byteOf far off", k.x.byteOf(far, 0), -1);
            Check.same("byteOf far off", k.x.byteOf(0, far), -1);
        }
        k.x.crash(0);
        Check.same("byteOf of a closed store", k.x.byteOf(0, 14), 'a');
    }

    private static void entryAndKey() {
        Keep k = busy();
        int[][] due = {{1, 64, 3, 0, 1}, {2, 64, 4, 0, 2}, {2, 2, 5, 0, 3}};
        for (int i = 0; i < due.length; i++) {
            for (int what = 0; what < 5; what++) Check.same("entry(" + i + ", " + what + ")", k.x.entry(i, what), due[i][what]);
            Check.same("entry(" + i + ", 5)", k.x.entry(i, 5), -1);
            Check.same("key behind its bytes", k.x.key(i, due[i][0]), -1);
            for (int far : FAR) {
                Check.same("entry of another what", k.x.entry(i, far), -1);
                Check.same("key far off", k.x.key(i, far), -1);
            }
        }
        Check.same("key(0, 0)", k.x.key(0, 0), 'a');
        Check.same("key(1, 1)", k.x.key(1, 1), 'b');
        Check.same("key(2, 1)", k.x.key(2, 1), 254);
        Check.same("entry(3, 0)", k.x.entry(3, 0), -1);
        Check.same("key(3, 0)", k.x.key(3, 0), -1);
        for (int far : FAR) {
            Check.same("entry far off", k.x.entry(far, 0), -1);
            Check.same("key far off", k.x.key(far, 0), -1);
        }
        k.x.crash(0);
        Check.same("entry of a closed store", k.x.entry(0, 0), -1);
        Check.same("key of a closed store", k.x.key(0, 0), -1);
    }

    /** Without a file and without a key there is none, from the first index on. */
    private static void ofNothing() {
        Keep k = new Keep();
        for (int i = -1; i <= 1; i++) {
            for (int what = -1; what <= 5; what++) {
                Check.same("file of no file", k.x.file(i, what), -1);
                Check.same("byteOf of no file", k.x.byteOf(i, what), -1);
                Check.same("entry of no key", k.x.entry(i, what), -1);
                Check.same("key of no key", k.x.key(i, what), -1);
            }
            Check.same("answer of no ANSWER", k.x.answer(i), -1);
        }
    }

    /** The first, the last and one above: of as many files and keys as there are, one more with each put. */
    private static void lastAndBehind() {
        Keep k = Keep.formatted(4096, 128);
        for (int n = 1; n <= 4; n++) {
            k.put("k" + n, "x".repeat(64));
            Check.same("the last file", k.x.file(n - 1, 0), n);
            Check.same("its last byte", k.x.byteOf(n - 1, 79), 'x');
            Check.same("behind its last byte", k.x.byteOf(n - 1, 80), -1);
            Check.same("behind the last file", k.x.file(n, 0), -1);
            Check.same("a byte behind the last file", k.x.byteOf(n, 0), -1);
            Check.same("the last key", k.x.entry(n - 1, 4), n);
            Check.same("its last byte", k.x.key(n - 1, 1), '0' + n);
            Check.same("behind its last byte", k.x.key(n - 1, 2), -1);
            Check.same("ahead of its first byte", k.x.key(n - 1, -1), -1);
            Check.same("behind the last key", k.x.entry(n, 4), -1);
            Check.same("a byte behind the last key", k.x.key(n, 0), -1);
        }
        k.remove("k4");
        Check.same("behind the last key", k.x.entry(3, 0), -1);
        Check.same("a byte behind the last key", k.x.key(3, 0), -1);
        k.x.format(128, 128);
        ofNothing(k);
    }

    private static void ofNothing(Keep k) {
        Check.same("file behind format()", k.x.file(0, 0), -1);
        Check.same("byteOf behind format()", k.x.byteOf(0, 0), -1);
        Check.same("entry behind format()", k.x.entry(0, 0), -1);
        Check.same("key behind format()", k.x.key(0, 0), -1);
    }

    /** A key of 16 bytes: the last one, and none behind it. */
    private static void longKey() {
        Keep k = new Keep();
        k.put("abcdefghijklmno\u00ff", "");
        Check.same("KSIZE", k.x.entry(0, 0), 16);
        Check.same("VSIZE", k.x.entry(0, 1), 0);
        Check.same("the last byte", k.x.key(0, 15), 255);
        Check.same("behind it", k.x.key(0, 16), -1);
        Check.same("ahead of the first", k.x.key(0, -1), -1);
    }

    private static void looks(String when, Keep k, int... due) {
        for (int what = 0; what < due.length; what++) Check.same("look(" + what + ") " + when, k.x.look(what), due[what]);
        Check.same("look(20) " + when, k.x.look(20), -1);
        for (int far : FAR) Check.same("look(" + far + ") " + when, k.x.look(far), -1);
    }

    private static void look() {
        Keep k = busy();
        k.feed("tape");
        looks("in a MERGE", k, 1, 2048, 128, 6, 2048 - 359, 200, 4, 0, 0, 0, 0, 3, 4, 6, 5, 4, 4, 24 + 16, 177, 336 - 177);
        k.x.crash(105);
        looks("behind a crash", k, 0, 2048, 128, 5, 2048 - 264, 0, 4, 0, 0, 0, 0, -1, -1, -1, -1, -1, -1, -1, -1, -1);
        k.x.open();
        looks("behind an opening", k, 1, 2048, 128, 4, 2048 - 261, 0, 4, 1, 2, 3, 1, 2, 3, 5, -1, -1, 0, 0, 159, 238 - 159);
    }

    /** look(14) to look(17) from unit to unit, up to where a MERGE is over. */
    private static void lookInMerge() {
        Keep k = new Keep();
        k.put("a", "");
        k.put("b", "");
        int[][] due = {{1, -1, 0, 0}, {-1, -1, 5, 30 + 38 + 12}, {-1, 2, 4, 15 + 38 + 12}, {-1, 2, 3, 38 + 12},
            {-1, -1, 2, 0}, {-1, -1, 1, 0}, {-1, -1, 0, 0}};
        for (int step = 0; step < due.length; step++) {
            if (step == 1) Check.same("mergeBegin()", k.x.mergeBegin(), 5);
            if (step > 1) Check.same("mergeStep(1)", k.x.mergeStep(1), due[step][2]);
            for (int what = 14; what <= 17; what++) Check.same("look(" + what + "), step " + step, k.x.look(what), due[step][what - 14]);
        }
    }

    /** Two keys at one PLACE, told by a patched HINT: the DATA files have fewer bytes than is LIVE. */
    private static void belowNothing() {
        Keep k = new Keep();
        k.put("a", "x".repeat(64));
        k.put("b", "1");
        k.x.mergeBegin();
        k.x.mergeStep(9);
        k.x.crash(0);
        k.patchNumber(1, 19 + 4, 0);
        k.patchNumber(1, 19 + 10, 64);
        k.mendSum(1);
        Check.same("keys", k.x.open(), 2);
        Check.same("look(18)", k.x.look(18), 158);
        Check.same("look(19)", k.x.look(19), 95 - 158);
    }

    private static String seen(Keep k) {
        StringBuilder text = new StringBuilder();
        for (int what = -1; what <= 20; what++) text.append(k.x.look(what)).append(' ');
        for (int i = -1; i <= 6; i++) {
            text.append(k.x.answer(i)).append('|');
            for (int what = -1; what <= 5; what++) {
                text.append(k.x.file(i, what)).append(' ').append(k.x.byteOf(i, what)).append(' ');
            }
        }
        for (int i = -1; i <= 3; i++) {
            for (int what = -1; what <= 5; what++) text.append(k.x.entry(i, what)).append(' ').append(k.x.key(i, what)).append(' ');
        }
        return text.toString();
    }

    /** To look changes nothing: one object answers the same a second time, and then does what it is to do. */
    private static void lookingChangesNothing() {
        Keep k = busy();
        Check.same("the same in a MERGE", seen(k), seen(k));
        Check.same("bad()", k.x.bad(), 0);
        Check.same("mergeStep(1)", k.x.mergeStep(1), 3);
        Check.same("crash(0)", k.x.crash(0), 0);
        Keep closed = busy();
        closed.x.crash(105);
        Check.same("the same while it is not OPEN", seen(closed), seen(closed));
        Check.same("open()", closed.x.open(), 2);
        Check.same("bytes CUT", closed.x.look(9), 3);
    }

    public static void main(String[] args) {
        lookingChangesNothing();
        file();
        byteOf();
        entryAndKey();
        ofNothing();
        lastAndBehind();
        longKey();
        look();
        lookInMerge();
        belowNothing();
        Check.end();
    }
}
