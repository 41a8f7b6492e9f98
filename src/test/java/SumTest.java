import java.util.Arrays;

/** Term 1: how numbers are written, the SUM, and the files in their order. */
public final class SumTest {
    /** The CRC-32 of 10 bytes and key and value, told by another program. */
    private static void known() {
        Keep k = new Keep();
        k.put("key", "va");
        k.remove("key");
        byte[] due = {16, 99, -56, -116, 0, 0, 0, 1, 0, 3, 0, 0, 0, 2, 'k', 'e', 'y', 'v', 'a',
            -110, 76, -61, 102, 0, 0, 0, 2, 0, 3, -1, -1, -1, -1, 'k', 'e', 'y'};
        Check.same("two RECORDS", Arrays.toString(k.bytes(0)), Arrays.toString(due));
    }

    /** Every byte has its part in the SUM, by all 256 values. */
    private static void allBytes() {
        Keep k = new Keep();
        for (int part = 0; part < 4; part++) {
            StringBuilder value = new StringBuilder();
            for (int i = 0; i < 64; i++) value.append((char) (64 * part + i));
            String key = Character.toString((char) (85 * part));
            k.put(key, value.toString());
            byte[] all = k.bytes(0);
            byte[] due = Craft.record(part + 1, key, value.toString());
            Check.same("the RECORD", Arrays.toString(Arrays.copyOfRange(all, 79 * part, all.length)), Arrays.toString(due));
            Check.same("get", k.get(key), value.toString());
        }
    }

    /** Four bytes, the highest first: a STAMP in which each of them counts. */
    private static void stampBytes() {
        int[] stamps = {255, 256, 65535, 65536, 16777215, 16777216, 0x12345678, 999999999};
        for (int stamp : stamps) {
            Keep k = Craft.data(Craft.record(stamp - 1, "a", ""));
            k.x.open();
            Check.same("the STAMP", k.put("b", ""), stamp);
            Check.same("the RECORD", Arrays.toString(k.bytes(1)), Arrays.toString(Craft.record(stamp, "b", "")));
            Check.same("entry's STAMP", k.x.entry(1, 4), stamp);
        }
    }

    /** A PLACE above 255, in the DIRECTORY and in a HINT. */
    private static void places() {
        Keep k = Keep.formatted(4096, 4096);
        for (int i = 0; i < 5; i++) k.put("k" + i, "x".repeat(64));
        k.x.mergeBegin();
        k.x.mergeStep(6);
        byte[][] entries = new byte[5][];
        for (int i = 0; i < 5; i++) entries[i] = Craft.entry(i + 1, 80 * i, 64, "k" + i);
        Check.same("the HINT", Arrays.toString(k.bytes(2)), Arrays.toString(Craft.hint(5, entries)));
        Check.same("the MARK", Arrays.toString(k.bytes(3)), Arrays.toString(Craft.mark(1, 1)));
        k.x.mergeStep(9);
        k.reopen(0);
        Check.same("entries READ", k.x.look(7), 5);
        Check.same("the last PLACE", k.x.entry(4, 3), 320);
        Check.same("bad()", k.x.bad(), 0);
    }

    /** "in order by NUMBER, those of one NUMBER by KIND": also those from 10 on. */
    private static void filesInOrder() {
        Keep k = Keep.formatted(4096, 128);
        for (int i = 0; i < 11; i++) k.put("k" + i, "x".repeat(60));
        k.x.sync();
        StringBuilder due = new StringBuilder();
        for (int i = 1; i <= 11; i++) due.append(i == 1 ? "" : " ").append(i).append(i == 11 ? "D77-0" : "D76-0");
        Check.same("files", k.files(), due.toString());
        k.x.mergeBegin();
        k.x.mergeStep(3);
        due.append(" 12D76-76 12H24-24 13D76-76 13H24-24 14D76-76");
        Check.same("files", k.files(), due.toString());
        k.put("k0", "");
        k.x.mergeStep(1);
        due.append(" 14H24-24 15D16-16 16D76-76");
        Check.same("files", k.files(), due.toString());
        k.x.mergeStep(8);
        Check.same("the MARK is the last", k.x.file(k.x.look(3) - 1, 1), 2);
        Check.same("and has the last NUMBER", k.x.file(k.x.look(3) - 1, 0), 24);
        Check.same("the DIRECTORY's first", k.x.entry(0, 2), 15);
    }

    public static void main(String[] args) {
        known();
        allBytes();
        stampBytes();
        places();
        filesInOrder();
        Check.end();
    }
}
