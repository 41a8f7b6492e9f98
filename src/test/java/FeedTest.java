/** Promise 3. */
public final class FeedTest {
    private static void order() {
        Keep k = new Keep();
        Check.same("feed of 10", k.x.feed(10, 0x8867666564636261L, 0x1122334455666a69L), 10);
        Check.same("feed of 1", k.x.feed(1, -1, 0), 11);
        k.x.put(2);
        Check.same("the value, the lowest bytes first", k.get("ab"), "cdefg\u0088ij\u00ff");
        Check.same("feed of 16", k.x.feed(16, 0x0101010101010101L, 0x0202020202020202L), 16);
        k.x.put(8);
        Check.same("the value out of b", k.get("\1\1\1\1\1\1\1\1"), "\2\2\2\2\2\2\2\2");
    }

    private static void edgesAndWrongOnes() {
        Keep k = new Keep();
        k.refuses("feed(0)", IllegalArgumentException.class, 0, () -> k.x.feed(0, 1, 1));
        k.refuses("feed(17)", IllegalArgumentException.class, 0, () -> k.x.feed(17, 1, 1));
        k.refuses("feed(-1)", IllegalArgumentException.class, 0, () -> k.x.feed(-1, 1, 1));
        for (int i = 1; i < 5; i++) Check.same("feed " + i, k.x.feed(16, 0, 0), 16 * i);
        Check.same("feed to 79", k.x.feed(15, 0, 0), 79);
        k.refuses("feed to 81", UnsupportedOperationException.class, 79, () -> k.x.feed(2, 0, 0));
        Check.same("feed to 80", k.x.feed(1, 0, 0), 80);
        k.refuses("feed to 81", UnsupportedOperationException.class, 80, () -> k.x.feed(1, 0, 0));
        k.refuses("feed(17) of a full tape", IllegalArgumentException.class, 80, () -> k.x.feed(17, 0, 0));
        k.refuses("feed at the greatest", IllegalArgumentException.class, 80, () -> k.x.feed(Integer.MAX_VALUE, 0, 0));
        Check.same("put of 80 bytes", k.x.put(16), 1);
        k.x.crash(0);
        Check.same("feed of a closed store", k.x.feed(3, 0, 0), 3);
    }

    /** "The n first bytes of a and b": each n, also those in which b has no part. */
    private static void eachNumber() {
        String all = "\u0001\u0082\u0003\u0084\u0005\u0086\u0007\u00ff\u0091\u0012\u0093\u0014\u0095\u0016\u0097\u00fe";
        for (int n = 1; n <= 16; n++) {
            Keep k = new Keep();
            Check.same("feed of " + n, k.x.feed(n, 0xff07860584038201L, 0xfe97169514931291L), n);
            Check.same("look(6) behind feed of " + n, k.x.look(6), n);
            k.x.put(1);
            Check.same("what feed of " + n + " brought", k.get("\u0001"), all.substring(1, n));
        }
    }

    /** "n is not 1 to 16": on, below and above each edge, at an empty tape and at a full one. */
    private static void wrongNumbers() {
        int[] wrong = {Integer.MIN_VALUE, -16, -1, 0, 17, 18, 80, 81, 256 + 1, Integer.MAX_VALUE - 80, Integer.MAX_VALUE};
        for (int n : wrong) {
            Keep k = new Keep();
            k.refuses("feed(" + n + ")", IllegalArgumentException.class, 0, () -> k.x.feed(n, 1, 1));
            k.feed("x".repeat(80));
            k.refuses("feed(" + n + ") at 80", IllegalArgumentException.class, 80, () -> k.x.feed(n, 1, 1));
        }
    }

    /** "it would have more than 80": from each tape of 64 to 80 bytes each n. */
    private static void toEighty() {
        for (int had = 64; had <= 80; had++) {
            for (int n = 1; n <= 16; n++) {
                Keep k = new Keep();
                k.feed("x".repeat(had));
                int more = n;
                String what = "feed(" + n + ") at " + had;
                if (had + n > 80) k.refuses(what, UnsupportedOperationException.class, had, () -> k.x.feed(more, 0, 0));
                else Check.same(what, k.x.feed(n, 0, 0), had + n);
            }
        }
    }

    /** A feed() that is refused leaves the tape's bytes as they are. */
    private static void refusedLeavesTheTape() {
        Keep k = new Keep();
        String text = "k".repeat(16) + "v".repeat(63);
        k.feed(text);
        k.refuses("feed to 81", UnsupportedOperationException.class, 79, () -> k.x.feed(2, -1, -1));
        k.refuses("feed(0)", IllegalArgumentException.class, 79, () -> k.x.feed(0, -1, -1));
        k.x.put(16);
        Check.same("get", k.get("k".repeat(16)), "v".repeat(63));
    }

    public static void main(String[] args) {
        order();
        edgesAndWrongOnes();
        eachNumber();
        wrongNumbers();
        toEighty();
        refusedLeavesTheTape();
        Check.end();
    }
}
