import java.util.ArrayList;
import java.util.List;
import java.util.function.Consumer;

/**
 * An AppendKeep whose calls are noted. An object is promised for 512 calls alone, so a test that looks
 * at more than these leave looks at other objects, which the same calls have brought to the same state.
 */
final class Calls {
    static final int MOST = 512;

    private final AppendKeep x = new AppendKeep();
    private final List<Consumer<AppendKeep>> done = new ArrayList<>();
    private int count = 0;

    /** How many calls the object is promised for still. */
    int left() {
        return MOST - count;
    }

    /** All that can be seen now, by as many other objects as that needs. */
    Views views() {
        return new Views(new ArrayList<>(done));
    }

    private AppendKeep next() {
        count++;
        if (count > MOST) throw new AssertionError("a test makes more than 512 calls on one object");
        return x;
    }

    private AppendKeep note(Consumer<AppendKeep> call) {
        done.add(call);
        return next();
    }

    void format(int capacity, int fileMost) {
        note(a -> a.format(capacity, fileMost)).format(capacity, fileMost);
    }

    int feed(int n, long a, long b) {
        return note(o -> o.feed(n, a, b)).feed(n, a, b);
    }

    int put(int keySize) {
        return note(a -> a.put(keySize)).put(keySize);
    }

    boolean remove() {
        return note(AppendKeep::remove).remove();
    }

    int get() {
        return note(AppendKeep::get).get();
    }

    int sync() {
        return note(AppendKeep::sync).sync();
    }

    int crash(int kept) {
        return note(a -> a.crash(kept)).crash(kept);
    }

    int open() {
        return note(AppendKeep::open).open();
    }

    int mergeBegin() {
        return note(AppendKeep::mergeBegin).mergeBegin();
    }

    int mergeStep(int n) {
        return note(a -> a.mergeStep(n)).mergeStep(n);
    }

    int patch(int f, int i, int v) {
        return note(a -> a.patch(f, i, v)).patch(f, i, v);
    }

    int answer(int i) {
        return next().answer(i);
    }

    int file(int f, int what) {
        return next().file(f, what);
    }

    int byteOf(int f, int i) {
        return next().byteOf(f, i);
    }

    int entry(int i, int what) {
        return next().entry(i, what);
    }

    int key(int i, int j) {
        return next().key(i, j);
    }

    int bad() {
        return next().bad();
    }

    int look(int what) {
        return next().look(what);
    }

    /** Looks at objects that were brought to one state, each of them for no more calls than promised. */
    static final class Views {
        private final List<Consumer<AppendKeep>> done;
        private AppendKeep twin;
        private int left = 0;

        private Views(List<Consumer<AppendKeep>> done) {
            this.done = done;
        }

        private AppendKeep next() {
            if (left == 0) {
                twin = new AppendKeep();
                for (Consumer<AppendKeep> call : done) again(call);
                left = MOST - done.size();
                if (left <= 0) throw new AssertionError("there is no call left to look");
            }
            left--;
            return twin;
        }

        private void again(Consumer<AppendKeep> call) {
            try {
                call.accept(twin);
            } catch (RuntimeException e) {
                // It was thrown the first time too, where the test has seen it.
            }
        }

        int answer(int i) {
            return next().answer(i);
        }

        int file(int f, int what) {
            return next().file(f, what);
        }

        int byteOf(int f, int i) {
            return next().byteOf(f, i);
        }

        int entry(int i, int what) {
            return next().entry(i, what);
        }

        int key(int i, int j) {
            return next().key(i, j);
        }

        int bad() {
            return next().bad();
        }

        int look(int what) {
            return next().look(what);
        }
    }
}
