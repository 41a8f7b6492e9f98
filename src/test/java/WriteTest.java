/** Term 2: when a WRITE is FULL, when it begins a new file, and that NUMBERS and STAMPS go one by one. */
public final class WriteTest {
    private static final Class<UnsupportedOperationException> FULL = UnsupportedOperationException.class;
    private static final String LONG = "b".repeat(16);
    /** The RECORDS of a and of 16 times b, with 64 bytes of value each. */
    private static final int BYTES = 79 + 94;
    private static final int NEED = BYTES + 8 + 15 + 30 + 12;

    /**
     * A store with the keys a and 16 times b in one file, ROOM less RESERVED as told, and so many
     * units of a MERGE done (below 0: none has begun).
     */
    private static Keep withFree(int free, int units) {
        Keep k = Keep.formatted(BYTES + free + (units < 0 ? 0 : NEED), 4096);
        k.put("a", "x".repeat(64));
        k.put(LONG, "y".repeat(64));
        if (units >= 0) k.x.mergeBegin();
        if (units > 0) k.x.mergeStep(units);
        Check.same("ROOM less RESERVED", k.x.look(4) - k.x.look(17), free);
        return k;
    }

    /** "if the RECORD has more bytes than ROOM less RESERVED": one less, just as many, one more. */
    private static void room(int units) {
        int[][] sizes = {{1, 0}, {1, 1}, {2, 0}, {16, 0}, {1, 64}, {16, 64}};
        for (int[] s : sizes) {
            int size = 14 + s[0] + s[1];
            for (int more = -1; more <= 1; more++) {
                Keep k = withFree(size + more, units);
                k.feed("k".repeat(s[0] + s[1]));
                String what = "put of " + size + " bytes with " + more + " more, behind " + units + " units";
                if (more < 0) {
                    k.refuses(what, FULL, 0, () -> k.x.put(s[0]));
                } else {
                    Check.same(what, k.x.put(s[0]), 3);
                    Check.same("ROOM less RESERVED behind it", k.x.look(4) - k.x.look(17), more);
                }
            }
        }
    }

    private static void roomForRemovals(int units) {
        for (String key : new String[] {"a", LONG}) {
            int size = 14 + key.length();
            for (int more = -1; more <= 1; more++) {
                Keep k = withFree(size + more, units);
                String what = "remove of " + size + " bytes with " + more + " more, behind " + units + " units";
                if (more < 0) {
                    k.feed(key);
                    k.refuses(what, FULL, 0, () -> k.x.remove() ? 1 : 0);
                } else {
                    Check.same(what, k.remove(key) ? 1 : 0, 1);
                    Check.same("ROOM less RESERVED behind it", k.x.look(4) - k.x.look(17), more);
                }
                Check.same("keys behind " + what, k.x.look(11), more < 0 ? 2 : 1);
            }
        }
    }

    /** At no ROOM at all nothing is written, and a key that is not there is removed without a WRITE. */
    private static void noRoom() {
        Keep k = withFree(0, -1);
        Check.same("ROOM", k.x.look(4), 0);
        k.feed("a");
        k.refuses("put at no ROOM", FULL, 0, () -> k.x.put(1));
        k.feed("a");
        k.refuses("remove at no ROOM", FULL, 0, () -> k.x.remove() ? 1 : 0);
        Check.same("remove of what is not there", k.remove("c") ? 1 : 0, 0);
        Check.same("get at no ROOM", k.get("a"), "x".repeat(64));
        Check.same("sync()", k.x.sync(), BYTES);
    }

    /** What a MERGE has RESERVED and doesn't bring is free behind FINISH. */
    private static void reservedUpToFinish() {
        Keep k = withFree(45, 1);
        Check.same("put over what is to be copied still", k.put(LONG, ""), 3);
        Check.same("RESERVED stays", k.x.look(17), NEED - 79);
        Check.same("ROOM less RESERVED", k.x.look(4) - k.x.look(17), 15);
        k.feed("cd");
        k.refuses("put of 16 bytes", FULL, 0, () -> k.x.put(1));
        Check.same("put of 15 bytes", k.put("c", ""), 4);
        k.feed("c");
        k.refuses("remove of 15 bytes", FULL, 0, () -> k.x.remove() ? 1 : 0);
        Check.same("FINISH", k.x.mergeStep(1), 2);
        Check.same("RESERVED behind FINISH", k.x.look(17), 0);
        Check.same("ROOM behind FINISH", k.x.look(4), 94 + 30);
        Check.same("put behind FINISH", k.put("d", "x".repeat(64)), 5);
        Check.same("ROOM", k.x.look(4), 94 + 30 - 79);
        Check.same("the REMOVAL of the INPUT", k.x.mergeStep(1), 1);
        Check.same("its bytes are ROOM again", k.x.look(4), 94 + 30 - 79 + BYTES);
        Check.same("the last unit", k.x.mergeStep(1), 0);
        Check.same("the MARK's bytes are ROOM again", k.x.look(4), 94 + 30 - 79 + BYTES + 12);
    }

    /** A WRITE that is FULL takes no NUMBER and no STAMP, also where it would begin a file. */
    private static void fullTakesNothing() {
        Keep k = Keep.formatted(128 + 20, 128);
        k.fill(128);
        k.feed("abcdefgh");
        k.refuses("put of 21 bytes into a new file", FULL, 0, () -> k.x.put(2));
        Check.same("ACTIVE", k.x.look(14), 1);
        Check.same("the next NUMBER", k.x.look(13), 2);
        int stamp = k.x.look(12);
        Check.same("put of 20 bytes", k.put("ab", "cdef"), stamp);
        Check.same("files", k.files(), "1D128-128 2D20-20");
        Check.same("ROOM", k.x.look(4), 0);
    }

    /** "or if the next STAMP would be above 1000000000": the last but one, the last, and none. */
    private static void stamps() {
        Keep k = Craft.data(Craft.record(999999998, "a", ""));
        k.x.open();
        Check.same("put", k.put("b", ""), 999999999);
        Check.same("the next STAMP", k.x.look(12), 1000000000);
        Check.same("remove with the last STAMP", k.remove("b") ? 1 : 0, 1);
        Check.same("its STAMP", Model.four(k.bytes(1), 15 + 4), 1000000000);
        Check.same("the next STAMP", k.x.look(12), 1000000001);
        k.feed("a");
        k.refuses("put without a STAMP", FULL, 0, () -> k.x.put(1));
        k.feed("a");
        k.refuses("remove without a STAMP", FULL, 0, () -> k.x.remove() ? 1 : 0);
        Check.same("remove of what is not there", k.remove("b") ? 1 : 0, 0);
        Check.same("get", k.get("a"), "");
        Check.same("a MERGE needs no STAMP", k.x.mergeBegin(), 5);
        Check.same("all units", k.x.mergeStep(5), 0);
        Check.same("the DIRECTORY", k.entries(), "a:0,3,0,999999998");
        k.reopen(0);
        Check.same("the next STAMP behind the MERGE", k.x.look(12), 999999999);
    }

    private static void lastStampByPut() {
        Keep k = Craft.data(Craft.record(999999999, "a", ""));
        k.x.open();
        Check.same("put with the last STAMP", k.put("b", ""), 1000000000);
        k.feed("c");
        k.refuses("put without a STAMP", FULL, 0, () -> k.x.put(1));
        k.reopen(15);
        Check.same("the next STAMP", k.x.look(12), 1000000001);
        k.feed("c");
        k.refuses("put without a STAMP behind an opening", FULL, 0, () -> k.x.put(1));
        k.x.format(128, 128);
        Check.same("put behind format()", k.put("c", ""), 1);
    }

    /** "if it would have more than FILEMOST bytes with the RECORD": one less, just as many, one more. */
    private static void fileMost() {
        int[] most = {128, 129, 160, 512, 4095, 4096};
        for (int fileMost : most) {
            for (int more = -1; more <= 1; more++) {
                fileMost(fileMost, more, "k", 0);
                fileMost(fileMost, more, LONG, 64);
                fileMost(fileMost, more, "k", -1);
            }
        }
    }

    private static void fileMost(int fileMost, int more, String key, int valueSize) {
        int size = 14 + key.length() + Math.max(0, valueSize);
        int ahead = fileMost + more - size;
        Keep k = Keep.formatted(16384, fileMost);
        k.fill(ahead);
        if (valueSize < 0) k.remove(key);
        else k.put(key, "v".repeat(valueSize));
        String what = size + " bytes behind " + ahead + ", FILEMOST " + fileMost;
        String due = more > 0 ? "1D" + ahead + " 2D" + size : "1D" + (ahead + size);
        Check.same("files, " + what, k.files().replaceAll("-[0-9]+", ""), due);
        Check.same("ACTIVE, " + what, k.x.look(14), more > 0 ? 2 : 1);
        Check.same("the next NUMBER, " + what, k.x.look(13), more > 0 ? 3 : 2);
    }

    /** "if there is none": in a new store, behind an opening, behind mergeBegin(). */
    private static void noActive() {
        Keep k = new Keep();
        Check.same("ACTIVE of a new store", k.x.look(14), -1);
        k.put("a", "");
        Check.same("ACTIVE", k.x.look(14), 1);
        k.reopen(15);
        Check.same("ACTIVE behind an opening", k.x.look(14), -1);
        k.remove("a");
        Check.same("ACTIVE", k.x.look(14), 2);
        k.x.mergeBegin();
        Check.same("ACTIVE in a MERGE", k.x.look(14), -1);
        k.put("b", "");
        Check.same("ACTIVE", k.x.look(14), 3);
        k.put("c", "");
        k.x.mergeStep(9);
        Check.same("ACTIVE behind the MERGE", k.x.look(14), 3);
        k.put("d", "");
        Check.same("files", k.files(), "3D45-15");
    }

    /** "NUMBERS and STAMPS are given out one by one": also by WRITES of one key, and by REMOVALS. */
    private static void oneByOne() {
        Keep k = Keep.formatted(4096, 128);
        for (int i = 1; i <= 5; i++) {
            Check.same("the next STAMP", k.x.look(12), 2 * i - 1);
            Check.same("put", k.put("a", "x".repeat(64)), 2 * i - 1);
            Check.same("remove", k.remove("a") ? 1 : 0, 1);
            Check.same("ACTIVE", k.x.look(14), i);
        }
        Check.same("files", k.files(), "1D94-94 2D94-94 3D94-94 4D94-94 5D94-94");
    }

    public static void main(String[] args) {
        for (int units = -1; units <= 3; units++) {
            room(units);
            roomForRemovals(units);
        }
        noRoom();
        reservedUpToFinish();
        fullTakesNothing();
        stamps();
        lastStampByPut();
        fileMost();
        noActive();
        oneByOne();
        Check.end();
    }
}
