import java.util.ArrayList;
import java.util.Arrays;
import java.util.List;
import java.util.Map;
import java.util.Random;

/** Runs of calls by lot (the same ones each time), on AppendKeep and on the Model: all promises. */
public final class ModelTest {
    private static final int[] EDGES = {-1, 0, 1, 2, 3, 4, 15, 16, 17, 63, 64, 65, 66, 999999999, 1000000000, 1000000001,
        Integer.MIN_VALUE, Integer.MAX_VALUE, 0x40000000, 128, 255, 256};

    private final Random lot;
    private final Calls x = new Calls();
    private final Model m = new Model();
    private final List<String> calls = new ArrayList<>();
    private final int keys;
    private final int patches;
    private boolean right = true;

    private ModelTest(long seed) {
        lot = new Random(seed);
        keys = 1 + lot.nextInt(40);
        patches = lot.nextInt(3) == 0 ? 0 : 1 + lot.nextInt(5);
    }

    public static void main(String[] args) {
        int runs = args.length > 0 ? Integer.parseInt(args[0]) : 600;
        long first = args.length > 1 ? Long.parseLong(args[1]) : 0;
        for (long seed = first; seed < first + runs; seed++) {
            ModelTest t = new ModelTest(seed);
            if (!t.run()) {
                System.out.println("run " + seed + ": " + String.join(" ", t.calls));
                Check.same("run " + seed, 0, 1);
                break;
            }
            Check.same("run " + seed, 1, 1);
        }
        Check.end();
    }

    private boolean run() {
        if (lot.nextInt(4) != 0) {
            int capacity = lot.nextBoolean() ? 128 + lot.nextInt(1500) : 128 + lot.nextInt(16257);
            int most = lot.nextBoolean() ? 128 + lot.nextInt(200) : 128 + lot.nextInt(3969);
            both("format(" + capacity + "," + most + ")", () -> done(() -> x.format(capacity, most)), () -> done(() -> m.format(capacity, most)));
        }
        int length = 60 + lot.nextInt(300);
        // A step may bring some eighty calls, and some must be left to look.
        while (right && calls.size() < length && x.left() > 120) step();
        seenAll();
        return right;
    }

    private static long done(Runnable call) {
        call.run();
        return 0;
    }

    private void both(String name, Check.Call mine, Check.Call due) {
        if (!right) return;
        String got = Check.told(mine);
        String want = Check.told(due);
        calls.add(name + "=" + got);
        if (!got.equals(want)) {
            right = false;
            System.out.println(name + " answered " + got + ", due is " + want);
        }
        // Looking at the object itself must not change it; to look at all of it takes other ones.
        if (lot.nextInt(3) == 0) seenSome();
        if (lot.nextInt(20) == 0) seenAll();
    }

    private void seenSome() {
        int what = lot.nextInt(20);
        seenOne("look(" + what + ")", x.look(what), m.look(what));
    }

    private void seenOne(String name, int got, int want) {
        if (got != want && right) {
            right = false;
            System.out.println(name + " answered " + got + ", due is " + want);
        }
    }

    private void seenAll() {
        Calls.Views v = x.views();
        for (int what = -1; what <= 20; what++) seenOne("look(" + what + ")", v.look(what), m.look(what));
        int f = 0;
        for (Map.Entry<Model.Id, byte[]> e : m.files.entrySet()) {
            byte[] b = e.getValue();
            seenOne("file(" + f + ",0)", v.file(f, 0), e.getKey().number());
            seenOne("file(" + f + ",1)", v.file(f, 1), e.getKey().kind());
            seenOne("file(" + f + ",2)", v.file(f, 2), b.length);
            seenOne("file(" + f + ",3)", v.file(f, 3), (int) m.came.stream().filter(e.getKey()::equals).count());
            for (int i = 0; i < b.length; i++) seenOne("byteOf(" + f + "," + i + ")", v.byteOf(f, i), b[i] & 255);
            seenOne("byteOf behind", v.byteOf(f, b.length), -1);
            f++;
        }
        seenOne("file behind", v.file(f, 0), -1);
        int i = 0;
        if (m.open) {
            for (Map.Entry<byte[], Model.Told> e : m.directory.entrySet()) {
                Model.Told t = e.getValue();
                int[] told = {e.getKey().length, t.vsize(), t.number(), t.place(), t.stamp(), -1};
                for (int what = 0; what < told.length; what++) seenOne("entry(" + i + "," + what + ")", v.entry(i, what), told[what]);
                for (int j = 0; j < told[0]; j++) seenOne("key(" + i + "," + j + ")", v.key(i, j), e.getKey()[j] & 255);
                seenOne("key behind", v.key(i, told[0]), -1);
                i++;
            }
            seenOne("bad()", v.bad(), m.bad());
        }
        seenOne("entry behind", v.entry(i, 0), -1);
        for (int j = 0; j <= m.answer.length; j++) seenOne("answer(" + j + ")", v.answer(j), j < m.answer.length ? m.answer[j] & 255 : -1);
    }

    private void feed(byte[] bytes) {
        for (int from = 0; from < bytes.length; from += 16) {
            byte[] part = Arrays.copyOf(Arrays.copyOfRange(bytes, from, Math.min(from + 16, bytes.length)), 16);
            long a = 0;
            long b = 0;
            for (int i = 7; i >= 0; i--) {
                a = a << 8 | part[i] & 255;
                b = b << 8 | part[8 + i] & 255;
            }
            feed(Math.min(16, bytes.length - from), a, b);
        }
    }

    private void feed(int n, long a, long b) {
        both("feed(" + n + "," + a + "," + b + ")", () -> x.feed(n, a, b), () -> m.feed(n, a, b));
    }

    private byte[] someKey() {
        Random own = new Random(lot.nextInt(keys));
        byte[] key = new byte[own.nextInt(3) == 0 ? 1 + own.nextInt(16) : 1 + own.nextInt(3)];
        for (int i = 0; i < key.length; i++) key[i] = (byte) (own.nextBoolean() ? 97 + own.nextInt(2) : own.nextInt(256));
        return key;
    }

    private void step() {
        int kind = lot.nextInt(100);
        if (!m.open) {
            if (kind < 25 && patches > 0) for (int i = lot.nextInt(patches + 1); i > 0; i--) patchSome();
            else if (kind < 70) both("open()", x::open, m::open);
            else any();
            return;
        }
        if (kind < 40) {
            byte[] key = someKey();
            byte[] value = new byte[lot.nextInt(4) == 0 ? lot.nextInt(66) : lot.nextInt(20)];
            lot.nextBytes(value);
            feed(Model.join(key, value));
            both("put(" + key.length + ")", () -> x.put(key.length), () -> m.put(key.length));
        } else if (kind < 48) {
            feed(someKey());
            both("remove()", () -> x.remove() ? 1 : 0, () -> m.remove() ? 1 : 0);
        } else if (kind < 55) {
            feed(someKey());
            both("get()", x::get, m::get);
        } else if (kind < 70) {
            if (m.merge == null) both("mergeBegin()", x::mergeBegin, m::mergeBegin);
            else mergeStep(lot.nextInt(3) == 0 ? 1 + lot.nextInt(40) : 1 + lot.nextInt(3));
        } else if (kind < 82 && m.merge != null) {
            mergeStep(1 + lot.nextInt(4));
        } else if (kind < 87) {
            both("sync()", x::sync, m::sync);
        } else if (kind < 93) {
            int all = m.came.size();
            int kept = lot.nextInt(4) == 0 ? all : lot.nextInt(all + 1);
            both("crash(" + kept + ")", () -> x.crash(kept), () -> m.crash(kept));
        } else {
            any();
        }
    }

    private void mergeStep(int n) {
        both("mergeStep(" + n + ")", () -> x.mergeStep(n), () -> m.mergeStep(n));
    }

    /** A call that may well be a wrong one. */
    private void any() {
        int v = EDGES[lot.nextInt(EDGES.length)];
        int w = EDGES[lot.nextInt(EDGES.length)];
        switch (lot.nextInt(12)) {
            case 0 -> feed(v, lot.nextLong(), lot.nextLong());
            case 1 -> both("put(" + v + ")", () -> x.put(v), () -> m.put(v));
            case 2 -> both("remove()", () -> x.remove() ? 1 : 0, () -> m.remove() ? 1 : 0);
            case 3 -> both("get()", x::get, m::get);
            case 4 -> both("sync()", x::sync, m::sync);
            case 5 -> both("crash(" + v + ")", () -> x.crash(v), () -> m.crash(v));
            case 6 -> both("open()", x::open, m::open);
            case 7 -> both("mergeBegin()", x::mergeBegin, m::mergeBegin);
            case 8 -> mergeStep(v);
            case 9 -> both("patch(" + v + "," + w + ",7)", () -> x.patch(v, w, 7), () -> m.patch(v, w, 7));
            case 10 -> {
                if (lot.nextInt(20) == 0 || v < 128 || w < 128) {
                    both("format(" + v + "," + w + ")", () -> done(() -> x.format(v, w)), () -> done(() -> m.format(v, w)));
                }
            }
            default -> both("bad()", x::bad, m::bad);
        }
    }

    private void patch(int f, int i, int v) {
        both("patch(" + f + "," + i + "," + v + ")", () -> x.patch(f, i, v), () -> m.patch(f, i, v));
    }

    private void patchFour(int f, int i, int v) {
        for (int j = 0; j < 4; j++) patch(f, i + j, v >> (24 - 8 * j));
    }

    private int someNumber() {
        return switch (lot.nextInt(3)) {
            case 0 -> EDGES[lot.nextInt(EDGES.length)];
            case 1 -> lot.nextInt(20);
            default -> lot.nextInt(200);
        };
    }

    /** Changes a file, mostly so that its SUM is right again. */
    private void patchSome() {
        if (m.files.isEmpty()) return;
        int f = lot.nextInt(m.files.size());
        for (int turn = 0; turn < 3 && m.idOf(f).kind() == 0; turn++) f = lot.nextInt(m.files.size());
        byte[] b = m.files.get(m.idOf(f));
        int way = lot.nextInt(10);
        if (way == 0 || b.length < 8) {
            patch(f, lot.nextInt(b.length), lot.nextInt());
        } else if (m.idOf(f).kind() == 2) {
            patchFour(f, 4 * lot.nextInt(b.length / 4), way < 5 ? lot.nextInt(12) : someNumber());
            patchFour(f, b.length - 4, Model.sum(m.files.get(m.idOf(f)), 0, b.length - 4));
        } else if (m.idOf(f).kind() == 1) {
            patchEntry(f, way);
            byte[] now = m.files.get(m.idOf(f));
            if (way > 1) patchFour(f, b.length - 4, Model.sum(now, 0, b.length - 4));
        } else {
            patchRecord(f, way);
        }
    }

    private void patchEntry(int f, int way) {
        byte[] b = m.files.get(m.idOf(f));
        int at = 4;
        while (at + 14 < b.length - 4 && lot.nextInt(3) > 0) at += 14 + Model.two(b, at + 8);
        if (at + 14 > b.length - 4) return;
        switch (way) {
            case 1, 2 -> patchFour(f, 0, Model.four(b, 0) + lot.nextInt(3) - 1);
            case 3 -> patchFour(f, at, someNumber());
            case 4 -> patchFour(f, at + 4, someNumber());
            case 5 -> patch(f, at + 8 + lot.nextInt(2), someNumber());
            case 6 -> patchFour(f, at + 10, someNumber());
            case 7 -> {
                if (at + 14 < b.length - 4) patch(f, at + 14, 97 + lot.nextInt(2));
            }
            case 8 -> patchFour(f, at + 4, 0);
            default -> patchFour(f, at + 10, lot.nextInt(20));
        }
    }

    private void patchRecord(int f, int way) {
        byte[] b = m.files.get(m.idOf(f));
        int at = 0;
        while (at + 14 < b.length && lot.nextInt(3) > 0) at += Math.min(b.length, 14 + Model.two(b, at + 8) + Math.max(0, Math.min(100, Model.four(b, at + 10))));
        if (at + 15 > b.length) return;
        switch (way) {
            case 1, 2 -> patch(f, at + lot.nextInt(b.length - at), lot.nextInt());
            case 3, 4 -> patchFour(f, at + 4, someNumber());
            case 5 -> patch(f, at + 9, someNumber());
            case 6 -> patchFour(f, at + 10, someNumber());
            case 7 -> patchFour(f, at + 10, -1);
            default -> patch(f, at + 14, 97 + lot.nextInt(2));
        }
        byte[] now = m.files.get(m.idOf(f));
        int size = 14 + Model.two(now, at + 8) + Math.max(0, Math.min(100, Model.four(now, at + 10)));
        if (at + size <= now.length) patchFour(f, at, Model.sum(now, at + 4, at + size));
    }
}
