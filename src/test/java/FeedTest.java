/** Promise 3. */
public final class FeedTest {
    private static void order() {
        Keep k = new Keep();
        Check.same("feed of 10", k.x.feed(10, 0x8867666564636261L, 0x1122334455666a69L), 10);
        Check.same("feed of 1", k.x.feed(1, -1, 0), 11);
        k.x.put(2);
        Check.same("the value, the lowest bytes first", k.get("ab"), "cdefg\u0088ij\u00ff");
        Check.same("feed of 16", k.x.feed(16, 0x0101010101010101L, 0x0202020202020202L), 16);
        k.x.put(8);
        Check.same("the value out of b", k.get("\1\1\1\1\1\1\1\1"), "\2\2\2\2\2\2\2\2");
    }

    private static void edgesAndWrongOnes() {
        Keep k = new Keep();
        k.refuses("feed(0)", IllegalArgumentException.class, 0, () -> k.x.feed(0, 1, 1));
        k.refuses("feed(17)", IllegalArgumentException.class, 0, () -> k.x.feed(17, 1, 1));
        k.refuses("feed(-1)", IllegalArgumentException.class, 0, () -> k.x.feed(-1, 1, 1));
        for (int i = 1; i < 5; i++) Check.same("feed " + i, k.x.feed(16, 0, 0), 16 * i);
        Check.same("feed to 79", k.x.feed(15, 0, 0), 79);
        k.refuses("feed to 81", UnsupportedOperationException.class, 79, () -> k.x.feed(2, 0, 0));
        Check.same("feed to 80", k.x.feed(1, 0, 0), 80);
        k.refuses("feed to 81", UnsupportedOperationException.class, 80, () -> k.x.feed(1, 0, 0));
        k.refuses("feed(17) of a full tape", IllegalArgumentException.class, 80, () -> k.x.feed(17, 0, 0));
        k.refuses("feed at the greatest", IllegalArgumentException.class, 80, () -> k.x.feed(Integer.MAX_VALUE, 0, 0));
        Check.same("put of 80 bytes", k.x.put(16), 1);
        k.x.crash(0);
        Check.same("feed of a closed store", k.x.feed(3, 0, 0), 3);
    }

    public static void main(String[] args) {
        order();
        edgesAndWrongOnes();
        Check.end();
    }
}
