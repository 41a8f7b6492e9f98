import java.util.Arrays;

/** Promises 11 and 12, and the MERGE of term 3. */
public final class MergeTest {
    private static final Class<IllegalStateException> STATE = IllegalStateException.class;

    private static byte[] entry(int stamp, int place, int vsize, String key) {
        byte[] k = new byte[key.length()];
        for (int i = 0; i < k.length; i++) k[i] = (byte) key.charAt(i);
        return Model.join(Model.four(stamp), Model.four(place), Model.two(k.length), Model.four(vsize), k);
    }

    private static void bytesAre(String what, Keep k, int f, byte[]... parts) {
        Check.same(what, Arrays.toString(k.bytes(f)), Arrays.toString(Model.summed(Model.join(parts))));
    }

    /** Unit by unit: two INPUTS, three LIVE RECORDS in an order that is not that of the keys. */
    private static void unitByUnit() {
        Keep k = Keep.formatted(4096, 128);
        k.put("z", "x".repeat(64));
        k.put("m", "y".repeat(30));
        k.put("a", "w".repeat(64));
        k.put("q", "");
        k.remove("q");
        k.x.sync();
        Check.same("files", k.files(), "1D124-0 2D109-0");
        byte[] first = k.bytes(0);
        Check.same("mergeBegin()", k.x.mergeBegin(), 7);
        Check.same("ACTIVE", k.x.look(14), -1);
        Check.same("OUTPUT", k.x.look(15), -1);
        Check.same("units", k.x.look(16), 7);
        Check.same("RESERVED", k.x.look(17), 79 + 45 + 38 + 79 + 23 + 16);
        Check.same("a unit", k.x.mergeStep(1), 6);
        Check.same("OUTPUT", k.x.look(15), 3);
        Check.same("files", k.files(), "1D124-0 2D109-0 3D79-79");
        Check.same("RESERVED", k.x.look(17), 45 + 38 + 79 + 23 + 16);
        Check.same("the DIRECTORY", k.entries(), "a:64,2,0,3 m:30,1,79,2 z:64,3,0,1");
        Check.same("a unit", k.x.mergeStep(1), 5);
        Check.same("the copies", Arrays.toString(k.bytes(2)), Arrays.toString(first));
        Check.same("a unit", k.x.mergeStep(1), 4);
        Check.same("files", k.files(), "1D124-0 2D109-0 3D124-124 3H38-38 4D79-79");
        bytesAre("the first HINT", k, 3, Model.four(2), entry(1, 0, 64, "z"), entry(2, 79, 30, "m"));
        Check.same("OUTPUT", k.x.look(15), 4);
        Check.same("RESERVED", k.x.look(17), 23 + 16);
        Check.same("FINISH", k.x.mergeStep(1), 3);
        Check.same("files", k.files(), "1D124-0 2D109-0 3D124-0 3H38-0 4D79-0 4H23-0 5M16-0");
        bytesAre("the second HINT", k, 5, Model.four(1), entry(3, 0, 64, "a"));
        bytesAre("the MARK", k, 6, Model.four(2), Model.four(1), Model.four(2));
        Check.same("OUTPUT", k.x.look(15), -1);
        Check.same("RESERVED", k.x.look(17), 0);
        Check.same("the next NUMBER", k.x.look(13), 6);
        Check.same("a unit", k.x.mergeStep(1), 2);
        Check.same("files", k.files(), "2D109-0 3D124-0 3H38-0 4D79-0 4H23-0 5M16-0");
        Check.same("a unit", k.x.mergeStep(1), 1);
        Check.same("files", k.files(), "3D124-0 3H38-0 4D79-0 4H23-0 5M16-0");
        k.refuses("mergeBegin() ahead of the last unit", STATE, 0, k.x::mergeBegin);
        Check.same("the last unit", k.x.mergeStep(1), 0);
        Check.same("files", k.files(), "3D124-0 3H38-0 4D79-0 4H23-0");
        Check.same("the DIRECTORY", k.entries(), "a:64,4,0,3 m:30,3,79,2 z:64,3,0,1");
        Check.same("get", k.get("m"), "y".repeat(30));
        k.refuses("mergeStep without a MERGE", STATE, 0, () -> k.x.mergeStep(1));
        Check.same("a next MERGE", k.x.mergeBegin(), 7);
        Check.same("all of it but three units", k.x.mergeStep(4), 3);
        Check.same("an INPUT with its HINT", k.x.mergeStep(1), 2);
        Check.same("files", k.files(), "4D79-0 4H23-0 6D124-0 6H38-0 7D79-0 7H23-0 8M16-0");
        Check.same("more units than there are", k.x.mergeStep(Integer.MAX_VALUE), 0);
    }

    /** WRITES meanwhile: those that are not LIVE any more are passed over, which is no unit. */
    private static void meanwhile() {
        Keep k = new Keep();
        for (String key : new String[] {"a", "b", "c", "d"}) k.put(key, "1");
        Check.same("mergeBegin()", k.x.mergeBegin(), 7);
        int need = k.x.look(17);
        Check.same("RESERVED", need, 4 * 16 + 8 + 4 * 15 + 12);
        Check.same("a unit", k.x.mergeStep(1), 6);
        k.put("b", "2");
        Check.same("ACTIVE", k.x.look(14), 3);
        k.remove("d");
        Check.same("RESERVED stays", k.x.look(17), need - 16);
        Check.same("units left", k.x.look(16), 4);
        k.put("a", "3");
        k.put("e", "4");
        Check.same("units left", k.x.look(16), 4);
        Check.same("the next copy is that of c", k.x.mergeStep(1), 3);
        Check.same("files", k.files(), "1D64-64 2D32-32 3D63-63");
        Check.same("the DIRECTORY", k.entries(), "a:1,3,31,7 b:1,3,0,5 c:1,2,16,3 e:1,3,47,8");
        Check.same("RESERVED", k.x.look(17), need - 32);
        Check.same("FINISH", k.x.mergeStep(1), 2);
        Check.same("files", k.files(), "1D64-0 2D32-0 2H38-0 3D63-0 4M12-0");
        bytesAre("the HINT, also of a", k, 2, Model.four(2), entry(1, 0, 1, "a"), entry(3, 16, 1, "c"));
        Check.same("the rest", k.x.mergeStep(9), 0);
        Check.same("keys behind a crash", k.reopen(0), 4);
        Check.same("entries READ", k.x.look(7), 2);
        Check.same("the DIRECTORY", k.entries(), "a:1,3,31,7 b:1,3,0,5 c:1,2,16,3 e:1,3,47,8");
    }

    /** NUMBERS go by turns to OUTPUTS and ACTIVE files. */
    private static void numbers() {
        Keep k = Keep.formatted(4096, 128);
        k.put("a", "x".repeat(64));
        k.put("b", "x".repeat(64));
        k.x.mergeBegin();
        k.put("c", "");
        k.x.mergeStep(1);
        k.put("d", "x".repeat(64));
        k.put("e", "x".repeat(64));
        k.x.mergeStep(2);
        Check.same("files", k.files(), "1D79-0 2D79-0 3D94-0 4D79-0 4H23-0 5D79-0 6D79-0 6H23-0 7M16-0");
        Check.same("ACTIVE", k.x.look(14), 5);
        k.x.mergeStep(9);
        Check.same("ACTIVE behind the MERGE", k.x.look(14), 5);
        k.put("f", "");
        Check.same("files", k.files(), "3D94-0 4D79-0 4H23-0 5D94-15 6D79-0 6H23-0");
    }

    /** An OUTPUT may have just FILEMOST bytes; one more needs the next. */
    private static void fullOutputs() {
        for (int more = 0; more < 2; more++) {
            Keep k = Keep.formatted(4096, 128);
            k.put("a", "x".repeat(49));
            k.put("b", "x".repeat(49 + more));
            k.put("c", "x".repeat(35));
            Check.same("INPUTS", k.files(), more == 0 ? "1D128-128 2D50-50" : "1D64-64 2D115-115");
            k.x.mergeBegin();
            int need = 178 + more + 3 * 15 + 2 * 8 + 16;
            Check.same("RESERVED", k.x.look(17), need);
            k.x.mergeStep(4);
            Check.same("files", k.files(), more == 0
                ? "1D128-0 2D50-0 3D128-0 3H38-0 4D50-0 4H23-0 5M16-0"
                : "1D64-0 2D115-0 3D64-0 3H23-0 4D115-0 4H38-0 5M16-0");
        }
    }

    private static void nothingLive() {
        Keep k = new Keep();
        Check.same("mergeBegin() without DATA", k.x.mergeBegin(), 0);
        k.refuses("mergeStep behind it", STATE, 0, () -> k.x.mergeStep(1));
        k.put("a", "1");
        k.remove("a");
        Check.same("mergeBegin()", k.x.mergeBegin(), 3);
        Check.same("RESERVED", k.x.look(17), 12);
        Check.same("FINISH", k.x.mergeStep(1), 2);
        Check.same("files", k.files(), "1D31-0 2M12-0");
        Check.same("the INPUT", k.x.mergeStep(1), 1);
        Check.same("files", k.files(), "2M12-0");
        k.refuses("mergeBegin() ahead of the last unit", STATE, 0, k.x::mergeBegin);
        Check.same("the MARK", k.x.mergeStep(1), 0);
        Check.same("files", k.files(), "");
        Check.same("the next STAMP", k.x.look(12), 3);
        Check.same("the next NUMBER", k.x.look(13), 3);
        Check.same("mergeBegin() without DATA", k.x.mergeBegin(), 0);
    }

    /** ROOM just as NEED, and one byte less. */
    private static void room() {
        int need = 79 + 23 + 12;
        for (int less = 0; less < 2; less++) {
            Keep k = Keep.formatted(79 + need - less, 128);
            k.put("a", "x".repeat(64));
            k.feed("tape");
            if (less == 0) {
                Check.same("mergeBegin() at just the ROOM", k.x.mergeBegin(), 4);
                Check.same("all units", k.x.mergeStep(9), 0);
                Check.same("ROOM", k.x.look(4), need - 79 - 23 + 79);
            } else {
                k.refuses("mergeBegin() at less ROOM", UnsupportedOperationException.class, 4, k.x::mergeBegin);
                Check.same("ACTIVE stays", k.x.look(14), 1);
            }
        }
    }

    private static void wrongOnes() {
        Keep k = new Keep();
        k.put("a", "1");
        k.refuses("a wrong mergeStep without a MERGE", STATE, 0, () -> k.x.mergeStep(0));
        k.x.mergeBegin();
        k.refuses("mergeBegin() in a MERGE", STATE, 0, k.x::mergeBegin);
        k.refuses("mergeStep(0)", IllegalArgumentException.class, 0, () -> k.x.mergeStep(0));
        k.refuses("mergeStep(-1)", IllegalArgumentException.class, 0, () -> k.x.mergeStep(-1));
        k.refuses("mergeStep of the least", IllegalArgumentException.class, 0, () -> k.x.mergeStep(Integer.MIN_VALUE));
        k.x.crash(k.x.look(5));
        k.refuses("mergeBegin() of a closed store", STATE, 0, k.x::mergeBegin);
        k.refuses("mergeStep of a closed store", STATE, 0, () -> k.x.mergeStep(1));
        k.x.open();
        k.refuses("mergeStep behind an opening", STATE, 0, () -> k.x.mergeStep(1));
        Check.same("units", k.x.look(16), 0);
        Check.same("RESERVED", k.x.look(17), 0);
    }

    /** A crash at each place of a MERGE, with each number of bytes kept, loses no key. */
    private static void crashes() {
        for (int units = 0; units <= 7; units++) {
            for (int kept = 0; kept <= 300; kept++) {
                Keep k = Keep.formatted(4096, 128);
                k.put("z", "x".repeat(64));
                k.put("m", "y".repeat(30));
                k.put("a", "w".repeat(64));
                k.remove("m");
                k.x.sync();
                k.x.mergeBegin();
                if (units > 0) k.x.mergeStep(units);
                if (kept > k.x.look(5)) break;
                Check.same("keys behind " + units + " units and crash(" + kept + ")", k.reopen(kept), 2);
                Check.same("get", k.get("z"), "x".repeat(64));
                Check.same("get", k.get("a"), "w".repeat(64));
                Check.same("MARKS", k.files().contains("M") ? 1 : 0, 0);
            }
        }
    }

    /** Several keys at one PLACE, and bytes that are none of the key's: copied as they lie, by key. */
    private static void onePlace() {
        Keep k = new Keep();
        k.put("b", "1");
        k.put("a", "22");
        k.x.mergeBegin();
        k.x.mergeStep(9);
        k.x.crash(0);
        k.patchNumber(1, 19 + 4, 0);
        k.mendSum(1);
        k.x.open();
        Check.same("the DIRECTORY", k.entries(), "a:2,2,0,2 b:1,2,0,1");
        byte[] data = k.bytes(0);
        k.x.mergeBegin();
        Check.same("RESERVED", k.x.look(17), 33 + 38 + 12);
        k.x.mergeStep(3);
        Check.same("files", k.files(), "2D33-0 2H38-0 3D33-0 3H38-0 4M12-0");
        Check.same("the copies", Arrays.toString(k.bytes(2)),
            Arrays.toString(Model.join(Arrays.copyOf(data, 17), Arrays.copyOf(data, 16))));
        bytesAre("the HINT", k, 3, Model.four(2), entry(2, 0, 2, "a"), entry(1, 17, 1, "b"));
        Check.same("bad()", k.x.bad(), 1);
    }

    public static void main(String[] args) {
        unitByUnit();
        meanwhile();
        numbers();
        fullOutputs();
        nothingLive();
        room();
        wrongOnes();
        crashes();
        onePlace();
        Check.end();
    }
}
