/** Promises 8 and 9. */
public final class SyncCrashTest {
    /** Two synced RECORDS of 79 bytes, each of which will have an OUTPUT of its own. */
    private static Keep merging() {
        Keep k = Keep.formatted(4096, 128);
        k.put("a", "x".repeat(64));
        k.put("b", "x".repeat(64));
        k.x.sync();
        k.x.mergeBegin();
        return k;
    }

    private static void sync() {
        Keep k = Keep.formatted(1024, 128);
        k.put("a", "x".repeat(64));
        k.put("b", "x".repeat(64));
        Check.same("files", k.files(), "1D79-79 2D79-79");
        Check.same("sync()", k.x.sync(), 158);
        Check.same("files", k.files(), "1D79-0 2D79-0");
        Check.same("sync() again", k.x.sync(), 0);
        k.put("c", "1");
        Check.same("files", k.files(), "1D79-0 2D95-16");
        Check.same("look(5)", k.x.look(5), 16);
        Check.same("crash", k.x.crash(3), 13);
        k.refuses("sync of a closed store", IllegalStateException.class, 0, k.x::sync);
        Check.same("files", k.files(), "1D79-0 2D82-0");
    }

    private static void crashByFiles() {
        int[] kept = {0, 1, 78, 79, 80, 157, 158};
        String[] due = {"", "1D1-0", "1D78-0", "1D79-0", "1D79-0 2D1-0", "1D79-0 2D78-0", "1D79-0 2D79-0"};
        for (int i = 0; i < kept.length; i++) {
            Keep k = Keep.formatted(1024, 128);
            k.put("a", "x".repeat(64));
            k.put("b", "x".repeat(64));
            k.feed("tape");
            Check.same("crash(" + kept[i] + ")", k.x.crash(kept[i]), 158 - kept[i]);
            Check.same("files behind crash(" + kept[i] + ")", k.files(), due[i]);
            Check.same("OPEN", k.x.look(0), 0);
            Check.same("UNSYNCED", k.x.look(5), 0);
            Check.same("tape", k.x.look(6), 4);
        }
    }

    /** Copies and WRITES come by turns: the bytes go in the order in which they came to all files. */
    private static void crashOfTwoFiles() {
        String[] due = {"1D32-0", "1D32-0 2D16-0", "1D32-0 2D16-0 3D16-0", "1D32-0 2D32-0 3D16-0", "1D32-0 2D32-0 3D32-0"};
        for (int i = 0; i < due.length; i++) {
            Keep k = new Keep();
            k.put("a", "1");
            k.put("b", "2");
            k.x.sync();
            k.x.mergeBegin();
            k.x.mergeStep(1);
            k.put("c", "3");
            k.x.mergeStep(1);
            k.put("d", "4");
            Check.same("crash", k.x.crash(16 * i), 64 - 16 * i);
            Check.same("files", k.files(), due[i]);
            Check.same("keys", k.x.open(), 2 + i / 2);
        }
    }

    /** The HINT of an OUTPUT comes ahead of the copy that needs the next one; FINISH syncs all. */
    private static void crashOfHints() {
        Keep k = merging();
        k.x.mergeStep(2);
        Check.same("files", k.files(), "1D79-0 2D79-0 3D79-79 3H23-23 4D79-79");
        k.x.crash(79 + 23);
        Check.same("files", k.files(), "1D79-0 2D79-0 3D79-0 3H23-0");
        k.x.open();
        k.x.mergeBegin();
        Check.same("units", k.x.mergeStep(3), 4);
        Check.same("UNSYNCED behind FINISH", k.x.look(5), 0);
        k.put("c", "");
        Check.same("crash behind FINISH", k.x.crash(0), 15);
    }

    private static void wrongOnes() {
        Keep k = new Keep();
        k.put("a", "1");
        k.feed("tape");
        k.refuses("crash(-1)", IllegalArgumentException.class, 4, () -> k.x.crash(-1));
        k.refuses("crash(17)", IllegalArgumentException.class, 4, () -> k.x.crash(17));
        k.refuses("crash of the least", IllegalArgumentException.class, 4, () -> k.x.crash(Integer.MIN_VALUE));
        k.refuses("crash of the greatest", IllegalArgumentException.class, 4, () -> k.x.crash(Integer.MAX_VALUE));
        Check.same("crash(16)", k.x.crash(16), 0);
        k.refuses("crash of a closed store", IllegalStateException.class, 4, () -> k.x.crash(0));
        k.refuses("a wrong crash of a closed store", IllegalStateException.class, 4, () -> k.x.crash(-1));
    }

    /** sync() with nothing written, with one byte more than that, and behind a crash. */
    private static void syncOfNothing() {
        Keep k = new Keep();
        Check.same("sync() of a new store", k.x.sync(), 0);
        k.put("a", "");
        Check.same("sync() of the least RECORD", k.x.sync(), 15);
        k.reopen(0);
        Check.same("sync() behind an opening", k.x.sync(), 0);
        k.put("b", "");
        k.reopen(7);
        Check.same("what stayed is synced", k.x.sync(), 0);
        k.feed("tape");
        k.x.sync();
        Check.same("tape behind sync()", k.x.look(6), 4);
    }

    /** FINISH syncs all, also what WRITES brought; what comes behind it is UNSYNCED again. */
    private static void syncByFinish() {
        Keep k = new Keep();
        k.put("a", "1");
        k.x.mergeBegin();
        k.put("b", "2");
        Check.same("UNSYNCED", k.x.look(5), 32);
        k.x.mergeStep(1);
        Check.same("UNSYNCED", k.x.look(5), 48);
        k.x.mergeStep(1);
        Check.same("UNSYNCED behind FINISH", k.x.look(5), 0);
        Check.same("sync() behind FINISH", k.x.sync(), 0);
        k.put("c", "3");
        k.x.mergeStep(1);
        Check.same("UNSYNCED behind a REMOVAL", k.x.look(5), 16);
        Check.same("crash(0)", k.x.crash(0), 16);
        Check.same("files", k.files(), "2D16-0 3D16-0 3H23-0 4M12-0");
    }

    /** "kept is below 0, or there are not so many": each number, at no, few and many UNSYNCED bytes. */
    private static void crashEdges() {
        int[] counts = {0, 15, 32};
        for (int count : counts) {
            for (int kept = -2; kept <= count + 2; kept++) {
                Keep k = new Keep();
                k.put("s", "");
                k.x.sync();
                if (count > 0) k.fill(count);
                int n = kept;
                String what = "crash(" + kept + ") of " + count;
                if (kept < 0 || kept > count) {
                    k.refuses(what, IllegalArgumentException.class, 0, () -> k.x.crash(n));
                    Check.same("OPEN behind " + what, k.x.look(0), 1);
                    continue;
                }
                Check.same(what, k.x.crash(kept), count - kept);
                Check.same("files behind " + what, k.files(), "1D" + (15 + kept) + "-0");
                Check.same("OPEN behind " + what, k.x.look(0), 0);
            }
        }
    }

    /** "a file that has none then is gone": DATA and HINT; one with synced bytes stays. */
    private static void crashOfEachByte() {
        for (int kept = 0; kept <= 79 + 23 + 79 + 15; kept++) {
            Keep k = merging();
            k.x.mergeStep(2);
            k.put("c", "");
            Check.same("crash(" + kept + ")", k.x.crash(kept), 196 - kept);
            StringBuilder due = new StringBuilder("1D79-0 2D79-0");
            String[] names = {" 3D", " 3H", " 4D", " 5D"};
            int[] sizes = {79, 23, 79, 15};
            int left = kept;
            for (int i = 0; i < 4 && left > 0; i++) {
                due.append(names[i]).append(Math.min(left, sizes[i])).append("-0");
                left -= sizes[i];
            }
            Check.same("files behind crash(" + kept + ")", k.files(), due.toString());
            Check.same("ROOM behind crash(" + kept + ")", k.x.look(4), 4096 - 158 - kept);
            Check.same("keys behind crash(" + kept + ")", k.x.open(), kept == 196 ? 3 : 2);
        }
    }

    /** The same bytes, but the WRITE comes ahead of the second copy: it goes ahead of it too. */
    private static void crashByTurns() {
        for (int kept = 0; kept <= 79 + 15 + 23 + 79; kept++) {
            Keep k = merging();
            k.x.mergeStep(1);
            k.put("c", "");
            k.x.mergeStep(1);
            k.x.crash(kept);
            int written = Math.max(0, Math.min(15, kept - 79));
            int hint = Math.max(0, Math.min(23, kept - 79 - 15));
            int second = Math.max(0, kept - 79 - 15 - 23);
            String due = "1D79-0 2D79-0" + (kept > 0 ? " 3D" + Math.min(79, kept) + "-0" : "") + (hint > 0 ? " 3H" + hint + "-0" : "")
                + (written > 0 ? " 4D" + written + "-0" : "") + (second > 0 ? " 5D" + second + "-0" : "");
            Check.same("files behind crash(" + kept + ")", k.files(), due);
            Check.same("keys behind crash(" + kept + ")", k.x.open(), written == 15 ? 3 : 2);
        }
    }

    private static int part(int kept, int ahead, int size) {
        return Math.max(0, Math.min(size, kept - ahead));
    }

    /** Several WRITES one behind the other, between two copies: what came last of all files goes first. */
    private static void crashOfSeveralWrites() {
        for (int kept = 0; kept <= 16 + 45 + 16 + 30; kept++) {
            Keep k = new Keep();
            k.put("a", "1");
            k.put("b", "2");
            k.x.sync();
            k.x.mergeBegin();
            k.x.mergeStep(1);
            for (String key : new String[] {"c", "d", "e"}) k.put(key, "");
            k.x.mergeStep(1);
            for (String key : new String[] {"f", "g"}) k.put(key, "");
            Check.same("crash(" + kept + ")", k.x.crash(kept), 107 - kept);
            int copied = part(kept, 0, 16) + part(kept, 16 + 45, 16);
            int written = part(kept, 16, 45) + part(kept, 16 + 45 + 16, 30);
            String due = "1D32-0" + (copied > 0 ? " 2D" + copied + "-0" : "") + (written > 0 ? " 3D" + written + "-0" : "");
            Check.same("files behind crash(" + kept + ")", k.files(), due);
            Check.same("keys behind crash(" + kept + ")", k.x.open(), 2 + written / 15);
            Check.same("bytes CUT behind crash(" + kept + ")", k.x.look(9), copied % 16 + written % 15);
        }
    }

    public static void main(String[] args) {
        sync();
        syncOfNothing();
        syncByFinish();
        crashEdges();
        crashOfEachByte();
        crashByTurns();
        crashByFiles();
        crashOfTwoFiles();
        crashOfSeveralWrites();
        crashOfHints();
        wrongOnes();
        Check.end();
    }
}
