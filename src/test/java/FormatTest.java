/** Promise 2. */
public final class FormatTest {
    private static final Class<IllegalArgumentException> WRONG = IllegalArgumentException.class;

    private static long format(Keep k, int capacity, int fileMost) {
        k.x.format(capacity, fileMost);
        return 0;
    }

    private static void allIsNewButTheTape(Keep k, int tape) {
        int[] due = {1, 128, 4096, 0, 128, 0, tape, 0, 0, 0, 0, 0, 1, 1, -1, -1, 0, 0, 0, 0};
        for (int what = 0; what < due.length; what++) {
            Check.same("look(" + what + ") behind format()", k.x.look(what), due[what]);
        }
        Check.same("the ANSWER behind format()", k.answer(), "");
        Check.same("files behind format()", k.files(), "");
        Check.same("keys behind format()", k.entries(), "");
    }

    private static void ofAnOpenStore() {
        Keep k = new Keep();
        k.put("a", "one");
        k.put("b", "two");
        k.get("a");
        k.x.mergeBegin();
        k.x.mergeStep(1);
        k.feed("tape");
        k.x.format(128, 4096);
        allIsNewButTheTape(k, 4);
        Check.same("put behind format()", k.x.put(1), 1);
        Check.same("files behind a put", k.files(), "1D18-18");
        Check.same("crash behind format()", k.x.crash(18), 0);
    }

    private static void ofAClosedStore() {
        Keep k = new Keep();
        k.put("a", "one");
        k.put("b", "two");
        k.reopen(20);
        k.x.crash(0);
        k.x.format(128, 4096);
        allIsNewButTheTape(k, 0);
    }

    private static void edgesAndWrongOnes() {
        Keep k = new Keep();
        k.put("a", "one");
        k.feed("tape");
        k.refuses("format(127, 128)", WRONG, 4, () -> format(k, 127, 128));
        k.refuses("format(16385, 128)", WRONG, 4, () -> format(k, 16385, 128));
        k.refuses("format(128, 127)", WRONG, 4, () -> format(k, 128, 127));
        k.refuses("format(128, 4097)", WRONG, 4, () -> format(k, 128, 4097));
        k.refuses("format(-1, -1)", WRONG, 4, () -> format(k, -1, -1));
        k.refuses("format of the greatest", WRONG, 4, () -> format(k, Integer.MAX_VALUE, Integer.MIN_VALUE));
        k.x.format(16384, 128);
        Check.same("CAPACITY", k.x.look(1), 16384);
        Check.same("FILEMOST", k.x.look(2), 128);
    }

    public static void main(String[] args) {
        ofAnOpenStore();
        ofAClosedStore();
        edgesAndWrongOnes();
        Check.end();
    }
}
