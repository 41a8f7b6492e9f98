import java.util.Arrays;

/** Promise 5. */
public final class RemoveTest {
    private static void ordinary() {
        Keep k = new Keep();
        k.put("key", "va");
        k.put("kez", "");
        Check.same("remove of a key", k.remove("key") ? 1 : 0, 1);
        byte[] body = {0, 0, 0, 3, 0, 3, -1, -1, -1, -1, 'k', 'e', 'y'};
        byte[] due = Model.join(Model.four(Model.sum(body, 0, body.length)), body);
        byte[] all = k.bytes(0);
        Check.same("the REMOVAL", Arrays.toString(Arrays.copyOfRange(all, 36, all.length)), Arrays.toString(due));
        Check.same("the DIRECTORY", k.entries(), "kez:0,1,19,2");
        String before = k.all();
        Check.same("once more", k.remove("key") ? 1 : 0, 0);
        Check.same("what can be seen", k.all(), before);
        Check.same("tape", k.x.look(6), 0);
        Check.same("put of it again", k.put("key", "3"), 4);
        Check.same("get of it", k.get("key"), "3");
    }

    private static void newFile() {
        Keep k = Keep.formatted(1024, 128);
        k.put("a", "x".repeat(64));
        k.put("b", "x".repeat(20));
        k.remove("a");
        Check.same("files", k.files(), "1D114-114 2D15-15");
        Check.same("ACTIVE", k.x.look(14), 2);
    }

    private static void wrongOnes() {
        Keep k = Keep.formatted(128, 128);
        k.put("a", "x".repeat(64));
        k.put("b", "x".repeat(20));
        Check.same("ROOM", k.x.look(4), 14);
        k.refuses("remove by an empty tape", IllegalArgumentException.class, 0, () -> k.x.remove() ? 1 : 0);
        k.feed("x".repeat(17));
        k.refuses("remove by 17 bytes", IllegalArgumentException.class, 0, () -> k.x.remove() ? 1 : 0);
        k.feed("a");
        k.refuses("remove of a full store", UnsupportedOperationException.class, 0, () -> k.x.remove() ? 1 : 0);
        Check.same("remove of what is not there", k.remove("x".repeat(16)) ? 1 : 0, 0);
        k.x.crash(0);
        k.feed("x".repeat(17));
        k.refuses("remove of a closed store", IllegalStateException.class, 0, () -> k.x.remove() ? 1 : 0);
    }

    private static void wrong(int tape) {
        Keep k = new Keep();
        k.put("x", "");
        k.feed("x".repeat(tape));
        k.refuses("remove by " + tape + " bytes", IllegalArgumentException.class, 0, () -> k.x.remove() ? 1 : 0);
    }

    /** "the tape has not 1 to 16 bytes": each tape. */
    private static void allTapes() {
        wrong(0);
        for (int tape = 17; tape <= 80; tape++) wrong(tape);
        for (int tape = 1; tape <= 16; tape++) {
            Keep k = new Keep();
            k.put("x".repeat(tape), "v");
            Check.same("remove by " + tape + " bytes", k.remove("x".repeat(tape)) ? 1 : 0, 1);
            Check.same("keys", k.x.look(11), 0);
            byte[] all = k.bytes(0);
            byte[] due = Craft.removal(2, "x".repeat(tape));
            Check.same("the REMOVAL", Arrays.toString(Arrays.copyOfRange(all, 15 + tape, all.length)), Arrays.toString(due));
            Check.same("keys behind an opening", k.reopen(29 + 2 * tape), 0);
            Check.same("the next STAMP", k.x.look(12), 3);
        }
    }

    /** A key that is not there: shorter or longer than one that is, or with another byte. */
    private static void notThere() {
        Keep k = new Keep();
        Check.same("remove of an empty store", k.remove("a") ? 1 : 0, 0);
        k.put("ab", "1");
        k.put("k".repeat(16), "2");
        String before = k.all();
        String[] keys = {"a", "abc", "ac", "aa", "b", "ab\0", "k".repeat(15), "k".repeat(15) + "l", "\0", "\u00ff"};
        for (String key : keys) {
            Check.same("remove of " + key, k.remove(key) ? 1 : 0, 0);
            Check.same("what can be seen", k.all(), before);
            Check.same("tape", k.x.look(6), 0);
        }
        Check.same("remove of the last key", k.remove("ab") && k.remove("k".repeat(16)) ? 1 : 0, 1);
        Check.same("keys", k.x.look(11), 0);
        Check.same("look(18)", k.x.look(18), 0);
        Check.same("look(19)", k.x.look(19), 17 + 31 + 16 + 30);
    }

    public static void main(String[] args) {
        ordinary();
        allTapes();
        notThere();
        newFile();
        wrongOnes();
        Check.end();
    }
}
