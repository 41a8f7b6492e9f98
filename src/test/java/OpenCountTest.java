/** Term 4 (a) and (e): the next NUMBER, which RECORD of a key counts, the next STAMP. */
public final class OpenCountTest {
    private static final byte[] TORN = Craft.record(0, "t", "");

    private static void nextNumber(String what, Keep k, int due) {
        k.x.open();
        Check.same("the next NUMBER, " + what, k.x.look(13), due);
    }

    /** "one more than the greatest one of all files (1 without)": ahead of all that is REMOVED. */
    private static void numbers() {
        Keep none = new Keep();
        none.x.crash(0);
        nextNumber("no file", none, 1);
        byte[] whole = Craft.record(1, "a", "");
        nextNumber("one file", Craft.data(whole), 2);
        nextNumber("two files", Craft.data(whole, whole), 3);
        nextNumber("a file that is CUT to nothing", Craft.data(TORN), 2);
        nextNumber("a last file that is CUT to nothing", Craft.data(whole, TORN), 3);
        nextNumber("a HINT", Craft.hinted(Craft.hint(0)), 4);
        nextNumber("a MARK", Craft.marked(1, Craft.mark(1, 1)), 4);
        nextNumber("a MARK that is not obeyed", Craft.marked(1, Craft.mark(0, 1)), 4);
    }

    /** A file that a crash left without a byte is none: its NUMBER and its STAMP are given again. */
    private static void numbersAgain() {
        Keep k = new Keep();
        k.put("a", "");
        k.reopen(15);
        k.put("b", "");
        Check.same("files", k.files(), "1D15-0 2D15-15");
        k.reopen(0);
        Check.same("the next NUMBER", k.x.look(13), 2);
        Check.same("the STAMP", k.put("c", ""), 2);
        Check.same("files", k.files(), "1D15-0 2D15-15");
        k.reopen(1);
        Check.same("the next NUMBER behind a torn file", k.x.look(13), 3);
        Check.same("the STAMP", k.put("d", ""), 2);
        Check.same("files", k.files(), "1D15-0 3D15-15");
    }

    private static void counts(String what, String due, byte[]... files) {
        Keep k = Craft.data(files);
        k.x.open();
        Check.same("the DIRECTORY, " + what, k.entries(), due);
    }

    /** "that which has the greatest STAMP .. counts, of several with that STAMP the one that was READ last". */
    private static void stampsInOneFile() {
        byte[] three = Craft.record(3, "a", "");
        byte[] four = Craft.record(4, "a", "x");
        byte[] five = Craft.record(5, "a", "");
        counts("3, 4", "a:1,1,15,4", Model.join(three, four));
        counts("5, 4", "a:0,1,0,5", Model.join(five, four));
        counts("4, 4", "a:1,1,16,4", Model.join(four, four));
        counts("4, 5, 3", "a:0,1,16,5", Model.join(four, five, three));
        counts("5, 5, 4", "a:0,1,15,5", Model.join(five, five, four));
        counts("of two keys", "a:0,1,0,5 b:0,1,15,4", Model.join(five, Craft.record(4, "b", ""), three));
    }

    private static void stampsInTwoFiles() {
        byte[] three = Craft.record(3, "a", "");
        byte[] four = Craft.record(4, "a", "x");
        byte[] five = Craft.record(5, "a", "");
        counts("3; 4", "a:1,2,0,4", three, four);
        counts("5; 4", "a:0,1,0,5", five, four);
        counts("4; 4", "a:1,2,0,4", four, four);
        counts("4; 5; 4", "a:0,2,0,5", four, five, four);
    }

    /** "it is in the DIRECTORY, if it is no REMOVAL": one STAMP less, the same, one more. */
    private static void removals() {
        byte[] put = Craft.record(4, "a", "");
        for (int stamp = 3; stamp <= 5; stamp++) {
            byte[] removal = Craft.removal(stamp, "a");
            counts("a REMOVAL " + stamp + " behind 4", stamp < 4 ? "a:0,1,0,4" : "", Model.join(put, removal));
            counts("a REMOVAL " + stamp + " ahead of 4", stamp > 4 ? "" : "a:0,1,15,4", Model.join(removal, put));
            counts("a REMOVAL " + stamp + " in a next file", stamp < 4 ? "a:0,1,0,4" : "", put, removal);
            counts("a REMOVAL " + stamp + " in a file ahead", stamp > 4 ? "" : "a:0,2,0,4", removal, put);
        }
        counts("a REMOVAL alone", "", Craft.removal(1, "a"));
        counts("a REMOVAL of another key", "a:0,1,0,4", Model.join(put, Craft.removal(9, "aa"), Craft.removal(9, "b")));
    }

    /** The HINT's file is READ last: the same STAMP counts then, one less does not. */
    private static void hints() {
        for (int stamp = 2; stamp <= 4; stamp++) {
            Keep k = Craft.hinted(Craft.hint(2, Craft.entry(stamp, 7, 9, "c"), Craft.entry(stamp, 8, 5, "c")));
            k.x.open();
            Check.same("entry of c, STAMP " + stamp, k.x.entry(2, 2), stamp < 3 ? 2 : 3);
            Check.same("its PLACE", k.x.entry(2, 3), stamp < 3 ? 0 : 8);
            Check.same("its VSIZE", k.x.entry(2, 1), stamp < 3 ? 64 : 5);
            Check.same("the next STAMP", k.x.look(12), Math.max(3, stamp) + 1);
            Keep gone = Craft.hinted(Craft.hint(1, Craft.entry(stamp, 7, -1, "c")));
            Check.same("keys by a REMOVAL of STAMP " + stamp, gone.x.open(), stamp < 3 ? 3 : 2);
        }
    }

    private static void nextStamp(String what, int due, byte[]... files) {
        Keep k = Craft.data(files);
        k.x.open();
        Check.same("the next STAMP, " + what, k.x.look(12), due);
    }

    /** "one more than the greatest that was READ (1 without)". */
    private static void stamps() {
        nextStamp("nothing READ", 1, TORN);
        nextStamp("1", 2, Craft.record(1, "a", ""));
        nextStamp("7, 3", 8, Craft.record(7, "a", ""), Craft.record(3, "b", ""));
        nextStamp("3, 7", 8, Craft.record(3, "a", ""), Craft.record(7, "b", ""));
        nextStamp("a REMOVAL", 10, Model.join(Craft.record(3, "a", ""), Craft.removal(9, "a")));
        nextStamp("behind a torn one", 4, Model.join(Craft.record(3, "a", ""), TORN, Craft.record(9, "b", "")));
        nextStamp("the greatest", 1000000001, Craft.record(1000000000, "a", ""));
        Keep none = new Keep();
        none.put("a", "");
        none.reopen(0);
        Check.same("the next STAMP without a file", none.x.look(12), 1);
    }

    /** "There is no ACTIVE file": the next WRITE begins one, though the last file is small. */
    private static void noActive() {
        Keep k = Craft.data(Craft.record(1, "a", ""));
        k.x.open();
        Check.same("ACTIVE", k.x.look(14), -1);
        k.put("b", "");
        Check.same("ACTIVE", k.x.look(14), 2);
        Check.same("files", k.files(), "1D15-0 2D15-15");
        k.put("c", "");
        Check.same("files", k.files(), "1D15-0 2D30-30");
    }

    public static void main(String[] args) {
        numbers();
        numbersAgain();
        stampsInOneFile();
        stampsInTwoFiles();
        removals();
        hints();
        stamps();
        noActive();
        Check.end();
    }
}
