import java.nio.charset.StandardCharsets;

/** The bytes of RECORDS, HINTS and MARKS, and stores that are not OPEN whose files have such bytes. */
final class Craft {
    /** The bytes of file 3 in hinted(). */
    static final int HINTED_DATA = 112;

    private Craft() {
    }

    static byte[] bytes(String text) {
        return text.getBytes(StandardCharsets.ISO_8859_1);
    }

    /** A RECORD with a right SUM; the sizes that it tells may be other than those of what is behind. */
    static byte[] record(int stamp, int ksize, int vsize, String keyAndValue) {
        byte[] body = Model.join(Model.four(stamp), Model.two(ksize), Model.four(vsize), bytes(keyAndValue));
        return Model.join(Model.four(Model.sum(body, 0, body.length)), body);
    }

    static byte[] record(int stamp, String key, String value) {
        return record(stamp, key.length(), value.length(), key + value);
    }

    static byte[] removal(int stamp, String key) {
        return record(stamp, key.length(), -1, key);
    }

    static byte[] entry(int stamp, int place, int ksize, int vsize, String key) {
        return Model.join(Model.four(stamp), Model.four(place), Model.two(ksize), Model.four(vsize), bytes(key));
    }

    static byte[] entry(int stamp, int place, int vsize, String key) {
        return entry(stamp, place, key.length(), vsize, key);
    }

    static byte[] hint(int count, byte[]... entries) {
        return Model.summed(Model.join(Model.four(count), Model.join(entries)));
    }

    static byte[] mark(int count, int... numbers) {
        byte[] all = Model.four(count);
        for (int n : numbers) all = Model.join(all, Model.four(n));
        return Model.summed(all);
    }

    /** DATA files 1, 2, .. of these bytes: at least 15 in each, at least 1 in the last one. */
    static Keep data(byte[]... files) {
        Keep k = Keep.formatted(16384, 4096);
        int kept = 0;
        for (byte[] file : files) {
            // Behind an opening there is no ACTIVE file, so the next RECORD begins one.
            k.reopen(k.x.look(5));
            k.fill(Math.max(15, file.length));
            kept = file.length;
        }
        k.x.crash(kept);
        for (int f = 0; f < files.length; f++) lay(k, f, files[f]);
        return k;
    }

    /**
     * OPEN, in a MERGE all of whose COPIES are done: DATA file 1 with the RECORDS of 16 times a (46
     * bytes) and 16 times b (66 bytes), 2 with that of c; UNSYNCED 3 as file 1, its HINT of 68 bytes,
     * 4 as file 2.
     */
    static Keep copied() {
        Keep k = Keep.formatted(4096, 128);
        k.put("a".repeat(16), "x".repeat(16));
        k.put("b".repeat(16), "y".repeat(36));
        k.put("c", "z".repeat(64));
        k.x.sync();
        k.x.mergeBegin();
        k.x.mergeStep(3);
        return k;
    }

    /** Files 1, 2 and 3 of copied(), and a HINT of file 3 that has these 1 to 68 bytes. */
    static Keep hinted(byte[] hint) {
        Keep k = copied();
        k.x.crash(HINTED_DATA + hint.length);
        lay(k, 3, hint);
        return k;
    }

    /**
     * DATA files 1 to inputs with a RECORD of 16 bytes in each (k0, k1, ..), the next one with all of
     * these RECORDS and its HINT, and a MARK of these bytes, which are 8 and 4 for each input.
     */
    static Keep marked(int inputs, byte[] mark) {
        Keep k = new Keep();
        for (int i = 0; i < inputs; i++) {
            k.put("k" + i, "");
            k.reopen(16);
        }
        k.x.mergeBegin();
        k.x.mergeStep(inputs + 1);
        k.x.crash(0);
        lay(k, k.x.look(3) - 1, mark);
        return k;
    }

    private static void lay(Keep k, int f, byte[] bytes) {
        Check.same("bytes of file " + f, k.x.file(f, 2), bytes.length);
        for (int i = 0; i < bytes.length; i++) k.x.patch(f, i, bytes[i]);
    }
}
