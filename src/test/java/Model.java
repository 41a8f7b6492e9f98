import java.util.ArrayList;
import java.util.Arrays;
import java.util.Comparator;
import java.util.List;
import java.util.Map;
import java.util.TreeMap;
import java.util.zip.CRC32;

/**
 * The document once more, as plainly and as unlike AppendKeep as can be: every UNSYNCED byte is
 * listed, a MERGE keeps its lists, and "if nothing else is done meanwhile" is tried out on a copy.
 */
final class Model {
    record Id(int number, int kind) implements Comparable<Id> {
        public int compareTo(Id other) {
            return number != other.number ? Integer.compare(number, other.number) : Integer.compare(kind, other.kind);
        }
    }

    /** A RECORD of the directory, of a list of copies or of a hint. */
    record Told(int number, int place, int vsize, int stamp) {
    }

    record Copy(byte[] key, Told told) {
    }

    static final class Merging {
        List<Integer> inputs = new ArrayList<>();
        List<Copy> copies = new ArrayList<>();
        List<Copy> inOutput = new ArrayList<>();
        int output = -1;
        int mark = -1;
        int removed = 0;
        int need = 0;
        int brought = 0;

        Merging twin() {
            Merging m = new Merging();
            m.inputs.addAll(inputs);
            m.copies.addAll(copies);
            m.inOutput.addAll(inOutput);
            m.output = output;
            m.mark = mark;
            m.removed = removed;
            m.need = need;
            m.brought = brought;
            return m;
        }
    }

    TreeMap<Id, byte[]> files = new TreeMap<>();
    List<Id> came = new ArrayList<>();
    TreeMap<byte[], Told> directory = new TreeMap<>(Arrays::compareUnsigned);
    int capacity = 4096;
    int fileMost = 512;
    boolean open = true;
    int number = 1;
    int stamp = 1;
    int active = -1;
    Merging merge = null;
    byte[] tape = {};
    byte[] answer = {};
    int[] opened = new int[4];

    Model twin() {
        Model m = new Model();
        m.files.putAll(files);
        m.came.addAll(came);
        m.directory.putAll(directory);
        m.capacity = capacity;
        m.fileMost = fileMost;
        m.open = open;
        m.number = number;
        m.stamp = stamp;
        m.active = active;
        m.merge = merge == null ? null : merge.twin();
        return m;
    }

    static byte[] join(byte[]... parts) {
        int size = 0;
        for (byte[] p : parts) size += p.length;
        byte[] all = new byte[size];
        int at = 0;
        for (byte[] p : parts) {
            System.arraycopy(p, 0, all, at, p.length);
            at += p.length;
        }
        return all;
    }

    static byte[] four(int v) {
        return new byte[] {(byte) (v >> 24), (byte) (v >> 16), (byte) (v >> 8), (byte) v};
    }

    static byte[] two(int v) {
        return new byte[] {(byte) (v >> 8), (byte) v};
    }

    static int four(byte[] b, int at) {
        return (b[at] & 255) << 24 | (b[at + 1] & 255) << 16 | (b[at + 2] & 255) << 8 | b[at + 3] & 255;
    }

    static int two(byte[] b, int at) {
        return (b[at] & 255) * 256 + (b[at + 1] & 255);
    }

    static int sum(byte[] b, int from, int to) {
        CRC32 crc = new CRC32();
        crc.update(b, from, to - from);
        return (int) crc.getValue();
    }

    static byte[] summed(byte[] b) {
        return join(b, four(sum(b, 0, b.length)));
    }

    int room() {
        return capacity - files.values().stream().mapToInt(b -> b.length).sum();
    }

    int reserved() {
        return merge == null || merge.mark != -1 ? 0 : merge.need - merge.brought;
    }

    void append(Id id, byte[] bytes) {
        files.put(id, join(files.getOrDefault(id, new byte[0]), bytes));
        for (int i = 0; i < bytes.length; i++) came.add(id);
    }

    int size(int n) {
        return files.getOrDefault(new Id(n, 0), new byte[0]).length;
    }

    void format(int newCapacity, int newFileMost) {
        if (newCapacity < 128 || newCapacity > 16384 || newFileMost < 128 || newFileMost > 4096) throw new IllegalArgumentException();
        files.clear();
        came.clear();
        directory.clear();
        capacity = newCapacity;
        fileMost = newFileMost;
        open = true;
        number = 1;
        stamp = 1;
        active = -1;
        merge = null;
        answer = new byte[0];
        opened = new int[4];
    }

    int feed(int n, long a, long b) {
        if (n < 1 || n > 16) throw new IllegalArgumentException();
        if (tape.length + n > 80) throw new UnsupportedOperationException();
        byte[] more = new byte[16];
        for (int i = 0; i < 8; i++) {
            more[i] = (byte) (a >> (8 * i));
            more[8 + i] = (byte) (b >> (8 * i));
        }
        tape = join(tape, Arrays.copyOf(more, n));
        return tape.length;
    }

    private Told write(byte[] key, byte[] value, int vsize) {
        byte[] body = join(four(stamp), two(key.length), four(vsize), key, value);
        byte[] record = join(four(sum(body, 0, body.length)), body);
        if (record.length > room() - reserved() || stamp > 1000000000) throw new UnsupportedOperationException();
        if (active == -1 || size(active) + record.length > fileMost) active = number++;
        Told told = new Told(active, size(active), vsize, stamp++);
        append(new Id(active, 0), record);
        return told;
    }

    private byte[] take() {
        byte[] t = tape;
        tape = new byte[0];
        return t;
    }

    int put(int keySize) {
        byte[] t = take();
        if (!open) throw new IllegalStateException();
        if (keySize < 1 || keySize > 16 || keySize > t.length || t.length - keySize > 64) throw new IllegalArgumentException();
        byte[] key = Arrays.copyOf(t, keySize);
        byte[] value = Arrays.copyOfRange(t, keySize, t.length);
        Told told = write(key, value, value.length);
        directory.put(key, told);
        return told.stamp;
    }

    boolean remove() {
        byte[] t = take();
        if (!open) throw new IllegalStateException();
        if (t.length < 1 || t.length > 16) throw new IllegalArgumentException();
        if (!directory.containsKey(t)) return false;
        write(t, new byte[0], -1);
        directory.remove(t);
        return true;
    }

    boolean isBad(byte[] key, Told told) {
        byte[] lies = lies(key, told);
        byte[] body = join(four(told.stamp), two(key.length), four(told.vsize), key);
        return four(lies, 0) != sum(lies, 4, lies.length) || !Arrays.equals(body, Arrays.copyOfRange(lies, 4, 4 + body.length));
    }

    private byte[] lies(byte[] key, Told told) {
        return Arrays.copyOfRange(files.get(new Id(told.number, 0)), told.place, told.place + 14 + key.length + told.vsize);
    }

    int get() {
        byte[] t = take();
        if (!open) throw new IllegalStateException();
        answer = new byte[0];
        Told told = directory.get(t);
        if (told == null) return -1;
        if (isBad(t, told)) return -2;
        byte[] lies = lies(t, told);
        answer = Arrays.copyOfRange(lies, 14 + t.length, lies.length);
        return answer.length;
    }

    int sync() {
        if (!open) throw new IllegalStateException();
        int n = came.size();
        came.clear();
        return n;
    }

    int crash(int kept) {
        if (!open) throw new IllegalStateException();
        if (kept < 0 || kept > came.size()) throw new IllegalArgumentException();
        int went = came.size() - kept;
        for (Id id : came.subList(kept, came.size())) {
            byte[] b = files.get(id);
            if (b.length == 1) files.remove(id);
            else files.put(id, Arrays.copyOf(b, b.length - 1));
        }
        came.clear();
        open = false;
        directory.clear();
        active = -1;
        merge = null;
        return went;
    }

    private void discard(Id id) {
        if (files.remove(id) != null) opened[3]++;
    }

    private static boolean isTold(int stamp, int ksize, int vsize) {
        return stamp >= 1 && stamp <= 1000000000 && ksize >= 1 && ksize <= 16 && vsize >= -1 && vsize <= 64;
    }

    int open() {
        if (open) throw new IllegalStateException();
        opened = new int[4];
        number = files.isEmpty() ? 1 : files.lastKey().number + 1;
        for (Id id : new ArrayList<>(files.keySet())) {
            if (id.kind != 2) continue;
            byte[] b = files.get(id);
            if (b.length >= 8 && b.length == 4L * four(b, 0) + 8 && four(b, b.length - 4) == sum(b, 0, b.length - 4)) {
                for (int at = 4; at < b.length - 4; at += 4) {
                    discard(new Id(four(b, at), 0));
                    discard(new Id(four(b, at), 1));
                }
            }
            discard(id);
        }
        for (Id id : new ArrayList<>(files.keySet())) {
            if (id.kind == 1 && !files.containsKey(new Id(id.number, 0))) discard(id);
        }
        List<Copy> read = new ArrayList<>();
        for (Id id : new ArrayList<>(files.keySet())) {
            if (id.kind != 0) continue;
            Id hintId = new Id(id.number, 1);
            List<Copy> told = hintOf(files.get(hintId), id.number, files.get(id).length);
            if (told != null) {
                read.addAll(told);
                opened[0] += told.size();
            } else {
                discard(hintId);
                readRecords(id, read);
            }
        }
        count(read);
        open = true;
        return directory.size();
    }

    private void readRecords(Id id, List<Copy> read) {
        byte[] b = files.get(id);
        int at = 0;
        while (at + 14 <= b.length) {
            int st = four(b, at + 4);
            int ks = two(b, at + 8);
            int vs = four(b, at + 10);
            if (!isTold(st, ks, vs)) break;
            int size = 14 + ks + (vs == -1 ? 0 : vs);
            if (at + size > b.length || four(b, at) != sum(b, at + 4, at + size)) break;
            read.add(new Copy(Arrays.copyOfRange(b, at + 14, at + 14 + ks), new Told(id.number, at, vs, st)));
            opened[1]++;
            at += size;
        }
        opened[2] += b.length - at;
        if (at == 0) discard(id);
        else files.put(id, Arrays.copyOf(b, at));
    }

    /** The entries of a GOOD HINT, or null. */
    private static List<Copy> hintOf(byte[] b, int number, int dataSize) {
        if (b == null || b.length < 8 || four(b, b.length - 4) != sum(b, 0, b.length - 4)) return null;
        List<Copy> told = new ArrayList<>();
        byte[] rest = Arrays.copyOfRange(b, 4, b.length - 4);
        while (rest.length > 0) {
            if (rest.length < 14) return null;
            int st = four(rest, 0);
            int place = four(rest, 4);
            int ks = two(rest, 8);
            int vs = four(rest, 10);
            if (!isTold(st, ks, vs) || 14 + ks > rest.length) return null;
            if (place < 0 || (long) place + 14 + ks + Math.max(0, vs) > dataSize) return null;
            told.add(new Copy(Arrays.copyOfRange(rest, 14, 14 + ks), new Told(number, place, vs, st)));
            rest = Arrays.copyOfRange(rest, 14 + ks, rest.length);
        }
        return told.size() == four(b, 0) ? told : null;
    }

    private void count(List<Copy> read) {
        TreeMap<byte[], Told> best = new TreeMap<>(Arrays::compareUnsigned);
        stamp = 1;
        for (Copy c : read) {
            Told old = best.get(c.key);
            if (old == null || old.stamp <= c.told.stamp) best.put(c.key, c.told);
            stamp = Math.max(stamp, c.told.stamp + 1);
        }
        directory.clear();
        for (Map.Entry<byte[], Told> e : best.entrySet()) {
            if (e.getValue().vsize != -1) directory.put(e.getKey(), e.getValue());
        }
    }

    private void startMerge() {
        active = -1;
        merge = new Merging();
        for (Id id : files.keySet()) if (id.kind == 0) merge.inputs.add(id.number);
        directory.forEach((k, t) -> merge.copies.add(new Copy(k, t)));
        merge.copies.sort(Comparator.<Copy>comparingInt(c -> c.told.number).thenComparingInt(c -> c.told.place)
            .thenComparing(c -> c.key, Arrays::compareUnsigned));
    }

    int mergeBegin() {
        if (!open || merge != null) throw new IllegalStateException();
        if (files.keySet().stream().noneMatch(id -> id.kind == 0)) return 0;
        Model trial = twin();
        trial.startMerge();
        Merging m = trial.merge;
        while (m.mark == -1) trial.unit();
        if (room() < m.brought) throw new UnsupportedOperationException();
        startMerge();
        merge.need = m.brought;
        return unitsLeft();
    }

    int unitsLeft() {
        Model trial = twin();
        int n = 0;
        while (trial.merge != null) {
            trial.unit();
            n++;
        }
        return n;
    }

    int mergeStep(int n) {
        if (!open || merge == null) throw new IllegalStateException();
        if (n < 1) throw new IllegalArgumentException();
        for (int i = 0; i < n && merge != null; i++) unit();
        return unitsLeft();
    }

    private void bring(Id id, byte[] bytes) {
        append(id, bytes);
        merge.brought += bytes.length;
    }

    private void hint() {
        byte[] b = four(merge.inOutput.size());
        for (Copy c : merge.inOutput) b = join(b, four(c.told.stamp), four(c.told.place), two(c.key.length), four(c.told.vsize), c.key);
        bring(new Id(merge.output, 1), summed(b));
        merge.inOutput.clear();
    }

    private void unit() {
        if (merge.mark != -1) {
            if (merge.removed < merge.inputs.size()) {
                int n = merge.inputs.get(merge.removed++);
                files.remove(new Id(n, 0));
                files.remove(new Id(n, 1));
            } else {
                files.remove(new Id(merge.mark, 2));
                merge = null;
            }
            return;
        }
        while (!merge.copies.isEmpty()) {
            Copy c = merge.copies.remove(0);
            Told now = directory.get(c.key);
            if (now == null || now.number != c.told.number || now.place != c.told.place) continue;
            byte[] lies = lies(c.key, now);
            if (merge.output == -1 || size(merge.output) + lies.length > fileMost) {
                if (merge.output != -1) hint();
                merge.output = number++;
            }
            Told told = new Told(merge.output, size(merge.output), now.vsize, now.stamp);
            bring(new Id(merge.output, 0), lies);
            merge.inOutput.add(new Copy(c.key, told));
            directory.put(c.key, told);
            return;
        }
        if (merge.output != -1) hint();
        merge.output = -1;
        byte[] b = four(merge.inputs.size());
        for (int n : merge.inputs) b = join(b, four(n));
        merge.mark = number++;
        bring(new Id(merge.mark, 2), summed(b));
        came.clear();
    }

    Id idOf(int f) {
        return f < 0 || f >= files.size() ? null : new ArrayList<>(files.keySet()).get(f);
    }

    int patch(int f, int i, int v) {
        if (open) throw new IllegalStateException();
        Id id = idOf(f);
        if (id == null || i < 0 || i >= files.get(id).length) throw new IndexOutOfBoundsException();
        byte[] b = files.get(id).clone();
        int was = b[i] & 255;
        b[i] = (byte) v;
        files.put(id, b);
        return was;
    }

    int bad() {
        if (!open) throw new IllegalStateException();
        int n = 0;
        for (Map.Entry<byte[], Told> e : directory.entrySet()) if (isBad(e.getKey(), e.getValue())) n++;
        return n;
    }

    int look(int what) {
        if (what >= 7 && what <= 10) return opened[what - 7];
        if (what >= 11 && !open) return -1;
        int live = 0;
        for (Map.Entry<byte[], Told> e : directory.entrySet()) live += 14 + e.getKey().length + e.getValue().vsize;
        int data = 0;
        for (Map.Entry<Id, byte[]> e : files.entrySet()) if (e.getKey().kind == 0) data += e.getValue().length;
        return switch (what) {
            case 0 -> open ? 1 : 0;
            case 1 -> capacity;
            case 2 -> fileMost;
            case 3 -> files.size();
            case 4 -> room();
            case 5 -> came.size();
            case 6 -> tape.length;
            case 11 -> directory.size();
            case 12 -> stamp;
            case 13 -> number;
            case 14 -> active;
            case 15 -> merge == null ? -1 : merge.output;
            case 16 -> merge == null ? 0 : unitsLeft();
            case 17 -> reserved();
            case 18 -> live;
            case 19 -> data - live;
            default -> -1;
        };
    }
}
