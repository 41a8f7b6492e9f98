import java.nio.charset.StandardCharsets;
import java.util.Arrays;

/** An AppendKeep that is fed with texts, and all that can be seen of it as one text. */
final class Keep {
    final Calls x = new Calls();

    static Keep formatted(int capacity, int fileMost) {
        Keep k = new Keep();
        k.x.format(capacity, fileMost);
        return k;
    }

    Keep feed(String text) {
        byte[] b = text.getBytes(StandardCharsets.ISO_8859_1);
        for (int from = 0; from < b.length; from += 16) {
            int n = Math.min(16, b.length - from);
            long[] two = new long[2];
            for (int i = 0; i < n; i++) two[i / 8] |= (b[from + i] & 255L) << (8 * (i % 8));
            x.feed(n, two[0], two[1]);
        }
        return this;
    }

    int put(String key, String value) {
        feed(key + value);
        return x.put(key.length());
    }

    boolean remove(String key) {
        feed(key);
        return x.remove();
    }

    /** The value, or what get() answers below 0. */
    String get(String key) {
        feed(key);
        int n = x.get();
        return n < 0 ? Integer.toString(n) : answer();
    }

    String answer() {
        return answer(x.views());
    }

    private static String answer(Calls.Views v) {
        StringBuilder text = new StringBuilder();
        for (int i = 0; v.answer(i) != AppendKeep.NONE; i++) text.append((char) v.answer(i));
        return text.toString();
    }

    /** A crash that keeps so many bytes, and an opening. */
    int reopen(int kept) {
        x.crash(kept);
        return x.open();
    }

    /** WRITES RECORDS of the key k with so many bytes in all, at least 15. */
    void fill(int n) {
        for (int left = n; left > 0; ) {
            int size = left <= 79 ? left : Math.min(79, left - 15);
            put("k", "x".repeat(size - 15));
            left -= size;
        }
    }

    byte[] bytes(int f) {
        return bytes(x.views(), f);
    }

    private static byte[] bytes(Calls.Views v, int f) {
        byte[] b = new byte[Math.max(0, v.file(f, 2))];
        for (int i = 0; i < b.length; i++) b[i] = (byte) v.byteOf(f, i);
        return b;
    }

    /** The files: NUMBER, KIND, bytes, UNSYNCED of each. */
    String files() {
        return files(x.views());
    }

    private static String files(Calls.Views v) {
        StringBuilder text = new StringBuilder();
        for (int f = 0; v.file(f, 0) != AppendKeep.NONE; f++) {
            text.append(f == 0 ? "" : " ").append(v.file(f, 0)).append("DHM".charAt(v.file(f, 1)))
                .append(v.file(f, 2)).append('-').append(v.file(f, 3));
        }
        return text.toString();
    }

    /** The DIRECTORY: key, VSIZE, NUMBER, PLACE, STAMP of each. */
    String entries() {
        return entries(x.views());
    }

    private static String entries(Calls.Views v) {
        StringBuilder text = new StringBuilder();
        for (int i = 0; v.entry(i, 0) != AppendKeep.NONE; i++) {
            text.append(i == 0 ? "" : " ");
            for (int j = 0; v.key(i, j) != AppendKeep.NONE; j++) text.append((char) v.key(i, j));
            for (int what = 1; what < 5; what++) text.append(what == 1 ? ":" : ",").append(v.entry(i, what));
        }
        return text.toString();
    }

    void patchNumber(int f, int at, int v) {
        for (int j = 0; j < 4; j++) x.patch(f, at + j, v >> (24 - 8 * j));
    }

    /** The file's last 4 bytes become the SUM of those ahead. */
    void mendSum(int f) {
        byte[] b = bytes(f);
        patchNumber(f, b.length - 4, Model.sum(b, 0, b.length - 4));
    }

    /** The first 4 bytes of the RECORD become its SUM. */
    void mendRecord(int f, int at, int size) {
        patchNumber(f, at, Model.sum(bytes(f), at + 4, at + size));
    }

    /** All but how many bytes the tape has. */
    String all() {
        Calls.Views v = x.views();
        StringBuilder text = new StringBuilder();
        for (int what = 0; what < 20; what++) text.append(what == 6 ? 0 : v.look(what)).append(' ');
        text.append('|').append(files(v)).append('|').append(entries(v)).append('|').append(answer(v));
        for (int f = 0; f < v.look(3); f++) text.append('|').append(Arrays.toString(bytes(v, f)));
        return text.toString();
    }

    /** The call throws that, and nothing but the tape, as told, has changed. */
    void refuses(String what, Class<? extends RuntimeException> due, int tape, Check.Call call) {
        String before = all();
        Check.isThrown(what, due, call);
        Check.same("what can be seen behind " + what, all(), before);
        Check.same("bytes of the tape behind " + what, x.look(6), tape);
    }
}
