/** Promises 8 and 9. */
public final class SyncCrashTest {
    private static void sync() {
        Keep k = Keep.formatted(1024, 128);
        k.put("a", "x".repeat(64));
        k.put("b", "x".repeat(64));
        Check.same("files", k.files(), "1D79-79 2D79-79");
        Check.same("sync()", k.x.sync(), 158);
        Check.same("files", k.files(), "1D79-0 2D79-0");
        Check.same("sync() again", k.x.sync(), 0);
        k.put("c", "1");
        Check.same("files", k.files(), "1D79-0 2D95-16");
        Check.same("look(5)", k.x.look(5), 16);
        Check.same("crash", k.x.crash(3), 13);
        k.refuses("sync of a closed store", IllegalStateException.class, 0, k.x::sync);
        Check.same("files", k.files(), "1D79-0 2D82-0");
    }

    private static void crashByFiles() {
        int[] kept = {0, 1, 78, 79, 80, 157, 158};
        String[] due = {"", "1D1-0", "1D78-0", "1D79-0", "1D79-0 2D1-0", "1D79-0 2D78-0", "1D79-0 2D79-0"};
        for (int i = 0; i < kept.length; i++) {
            Keep k = Keep.formatted(1024, 128);
            k.put("a", "x".repeat(64));
            k.put("b", "x".repeat(64));
            k.feed("tape");
            Check.same("crash(" + kept[i] + ")", k.x.crash(kept[i]), 158 - kept[i]);
            Check.same("files behind crash(" + kept[i] + ")", k.files(), due[i]);
            Check.same("OPEN", k.x.look(0), 0);
            Check.same("UNSYNCED", k.x.look(5), 0);
            Check.same("tape", k.x.look(6), 4);
        }
    }

    /** Copies and WRITES come by turns: the bytes go in the order in which they came to all files. */
    private static void crashOfTwoFiles() {
        String[] due = {"1D32-0", "1D32-0 2D16-0", "1D32-0 2D16-0 3D16-0", "1D32-0 2D32-0 3D16-0", "1D32-0 2D32-0 3D32-0"};
        for (int i = 0; i < due.length; i++) {
            Keep k = new Keep();
            k.put("a", "1");
            k.put("b", "2");
            k.x.sync();
            k.x.mergeBegin();
            k.x.mergeStep(1);
            k.put("c", "3");
            k.x.mergeStep(1);
            k.put("d", "4");
            Check.same("crash", k.x.crash(16 * i), 64 - 16 * i);
            Check.same("files", k.files(), due[i]);
            Check.same("keys", k.x.open(), 2 + i / 2);
        }
    }

    /** The HINT of an OUTPUT comes ahead of the copy that needs the next one; FINISH syncs all. */
    private static void crashOfHints() {
        Keep k = Keep.formatted(4096, 128);
        k.put("a", "x".repeat(64));
        k.put("b", "x".repeat(64));
        k.x.sync();
        k.x.mergeBegin();
        k.x.mergeStep(2);
        Check.same("files", k.files(), "1D79-0 2D79-0 3D79-79 3H23-23 4D79-79");
        k.x.crash(79 + 23);
        Check.same("files", k.files(), "1D79-0 2D79-0 3D79-0 3H23-0");
        k.x.open();
        k.x.mergeBegin();
        Check.same("units", k.x.mergeStep(3), 4);
        Check.same("UNSYNCED behind FINISH", k.x.look(5), 0);
        k.put("c", "");
        Check.same("crash behind FINISH", k.x.crash(0), 15);
    }

    private static void wrongOnes() {
        Keep k = new Keep();
        k.put("a", "1");
        k.feed("tape");
        k.refuses("crash(-1)", IllegalArgumentException.class, 4, () -> k.x.crash(-1));
        k.refuses("crash(17)", IllegalArgumentException.class, 4, () -> k.x.crash(17));
        k.refuses("crash of the least", IllegalArgumentException.class, 4, () -> k.x.crash(Integer.MIN_VALUE));
        k.refuses("crash of the greatest", IllegalArgumentException.class, 4, () -> k.x.crash(Integer.MAX_VALUE));
        Check.same("crash(16)", k.x.crash(16), 0);
        k.refuses("crash of a closed store", IllegalStateException.class, 4, () -> k.x.crash(0));
        k.refuses("a wrong crash of a closed store", IllegalStateException.class, 4, () -> k.x.crash(-1));
    }

    public static void main(String[] args) {
        sync();
        crashByFiles();
        crashOfTwoFiles();
        crashOfHints();
        wrongOnes();
        Check.end();
    }
}
