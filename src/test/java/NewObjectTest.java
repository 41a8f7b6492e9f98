/** Promise 1, and the constant. */
public final class NewObjectTest {
    public static void main(String[] args) {
        AppendKeep x = new AppendKeep();
        int[] due = {1, 4096, 512, 0, 4096, 0, 0, 0, 0, 0, 0, 0, 1, 1, -1, -1, 0, 0, 0, 0};
        for (int what = 0; what < due.length; what++) {
            Check.same("look(" + what + ") of a new object", x.look(what), due[what]);
        }
        Check.same("NONE", AppendKeep.NONE, -1);
        Check.same("answer(0) of a new object", x.answer(0), -1);
        Check.same("file(0, 0) of a new object", x.file(0, 0), -1);
        Check.same("entry(0, 0) of a new object", x.entry(0, 0), -1);
        Check.same("mergeBegin() of a new object", x.mergeBegin(), 0);
        Check.same("bad() of a new object", x.bad(), 0);
        Check.same("sync() of a new object", x.sync(), 0);
        Check.isThrown("open() of a new object", IllegalStateException.class, x::open);
        Check.end();
    }
}
