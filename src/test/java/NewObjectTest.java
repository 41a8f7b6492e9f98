/** Promise 1, and the constant. */
public final class NewObjectTest {
    /** What is done with one object is not seen at another one. */
    private static void twoObjects() {
        Keep one = new Keep();
        Keep other = new Keep();
        String before = other.all();
        one.put("a", "1");
        one.get("a");
        one.x.mergeBegin();
        one.x.mergeStep(1);
        one.feed("tape");
        Check.same("what can be seen at another object", other.all(), before);
        Check.same("its tape", other.x.look(6), 0);
        Check.same("its first STAMP", other.put("b", "2"), 1);
        Check.same("its files", other.files(), "1D16-16");
        Check.same("what the first one has", one.files(), "1D16-16 2D16-16");
    }

    /** "CAPACITY 4096, FILEMOST 512": just as many bytes are written, in files of that size. */
    private static void sizesHold() {
        Keep k = new Keep();
        for (int i = 0; i < 8; i++) k.fill(512);
        Check.same("files", k.x.look(3), 8);
        Check.same("ROOM", k.x.look(4), 0);
        k.feed("a");
        k.refuses("put at no ROOM", UnsupportedOperationException.class, 0, () -> k.x.put(1));
    }

    public static void main(String[] args) {
        twoObjects();
        sizesHold();
        AppendKeep x = new AppendKeep();
        int[] due = {1, 4096, 512, 0, 4096, 0, 0, 0, 0, 0, 0, 0, 1, 1, -1, -1, 0, 0, 0, 0};
        for (int what = 0; what < due.length; what++) {
            Check.same("look(" + what + ") of a new object", x.look(what), due[what]);
        }
        Check.same("NONE", AppendKeep.NONE, -1);
        Check.same("answer(0) of a new object", x.answer(0), -1);
        Check.same("file(0, 0) of a new object", x.file(0, 0), -1);
        Check.same("entry(0, 0) of a new object", x.entry(0, 0), -1);
        Check.same("get() of a new object", x.get(), -1);
        Check.same("mergeBegin() of a new object", x.mergeBegin(), 0);
        Check.same("bad() of a new object", x.bad(), 0);
        Check.same("sync() of a new object", x.sync(), 0);
        Check.isThrown("open() of a new object", IllegalStateException.class, x::open);
        Check.end();
    }
}
