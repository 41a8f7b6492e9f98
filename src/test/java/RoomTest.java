import java.lang.management.ManagementFactory;

/**
 * What a run of 512 calls makes stays small. A field or an element has at least one byte, so fewer
 * bytes than the room's 7.3 million fields and elements are fine in any case.
 */
public final class RoomTest {
    private static final long MOST = 3000000;

    private interface Run {
        void of(AppendKeep x);
    }

    private static long made() {
        com.sun.management.ThreadMXBean threads = (com.sun.management.ThreadMXBean) ManagementFactory.getThreadMXBean();
        return threads.getThreadAllocatedBytes(Thread.currentThread().getId());
    }

    private static void staysSmall(String what, Run run) {
        run.of(new AppendKeep());
        AppendKeep x = new AppendKeep();
        long before = made();
        run.of(x);
        long bytes = made() - before;
        System.out.println(what + ": " + bytes + " bytes");
        Check.same(what + " makes too much", bytes > MOST ? 1 : 0, 0);
    }

    private static void puts(AppendKeep x, int count, int size) {
        for (int i = 0; i < count; i++) {
            for (int n = size; n > 0; n -= 16) x.feed(Math.min(n, 16), i * 7919L, i);
            x.put(3);
        }
    }

    private static void merges(AppendKeep x, int calls) {
        for (int i = 0; i < calls / 2; i++) {
            x.mergeBegin();
            x.mergeStep(1000000);
        }
    }

    public static void main(String[] args) {
        staysSmall("512 new objects", x -> {
            AppendKeep last = null;
            for (int i = 0; i < 512; i++) last = new AppendKeep();
            Check.same("the last one is open", last.look(0), 1);
        });
        staysSmall("many small records and merges", x -> {
            x.format(16384, 128);
            puts(x, 128, 3);
            merges(x, 254);
        });
        staysSmall("great records and merges of small files", x -> {
            x.format(16384, 128);
            puts(x, 50, 67);
            merges(x, 210);
        });
        staysSmall("great records and merges of great files", x -> {
            x.format(16384, 4096);
            puts(x, 50, 67);
            merges(x, 210);
        });
        staysSmall("openings", x -> {
            x.format(16384, 128);
            puts(x, 128, 3);
            x.sync();
            for (int i = 0; i < 127; i++) {
                x.crash(0);
                x.open();
            }
        });
        staysSmall("formats", x -> {
            for (int i = 0; i < 170; i++) {
                x.format(16384, 4096);
                puts(x, 1, 16);
            }
        });
        Check.end();
    }
}
