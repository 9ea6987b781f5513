import java.util.ArrayList;
import java.util.List;
import java.util.function.Consumer;
import java.util.function.ToIntFunction;

/**
 * A ZipArray as the tests use it. The document promises nothing of an object behind its 512th call, and to read a file
 * takes up to 1600: before that, a new object takes the old one's place, and the calls that may change something are
 * made on it once more.
 */
final class Zip {
    private static final int MOST_CALLS = 512;

    private final List<ToIntFunction<ZipArray>> changes = new ArrayList<>();
    private ZipArray now = new ZipArray();
    private int calls = 0;

    /** How many calls so far may have changed something, those that threw among them. */
    int changes() {
        return changes.size();
    }

    private int ask(ToIntFunction<ZipArray> call) {
        if (calls == MOST_CALLS) {
            begin();
        }
        calls++;
        return call.applyAsInt(now);
    }

    private int change(ToIntFunction<ZipArray> call) {
        // An Error, so that no test takes it for an answer; one call is left for a question.
        if (changes.size() == MOST_CALLS - 1) {
            throw new AssertionError("a test makes too many changes of one object");
        }
        try {
            return ask(call);
        } finally {
            changes.add(call);
        }
    }

    private void begin() {
        now = new ZipArray();
        calls = changes.size();
        for (ToIntFunction<ZipArray> call : changes) {
            try {
                call.applyAsInt(now);
            } catch (RuntimeException e) {
                // It threw before, too, and the test has looked at it then.
            }
        }
    }

    private void changeBy(Consumer<ZipArray> call) {
        change(x -> {
            call.accept(x);
            return 0;
        });
    }

    int clear() {
        return change(ZipArray::clear);
    }

    int give(long bytes, int n) {
        return change(x -> x.give(bytes, n));
    }

    int fill(int b, int n) {
        return change(x -> x.fill(b, n));
    }

    int held() {
        return ask(ZipArray::held);
    }

    int at(int i) {
        return ask(x -> x.at(i));
    }

    int crc() {
        return ask(ZipArray::crc);
    }

    int pack() {
        return change(ZipArray::pack);
    }

    int unpack() {
        return change(ZipArray::unpack);
    }

    void create() {
        changeBy(ZipArray::create);
    }

    void wide(boolean is) {
        changeBy(x -> x.wide(is));
    }

    int add(int name, int method, boolean later) {
        return change(x -> x.add(name, method, later));
    }

    int remove(int name) {
        return change(x -> x.remove(name));
    }

    int load(int name) {
        return change(x -> x.load(name));
    }

    int count() {
        return ask(ZipArray::count);
    }

    int about(int k, int what) {
        return ask(x -> x.about(k, what));
    }

    int check() {
        return ask(ZipArray::check);
    }

    int length() {
        return ask(ZipArray::length);
    }

    int byteAt(int k) {
        return ask(x -> x.byteAt(k));
    }

    void poke(int k, int b) {
        changeBy(x -> x.poke(k, b));
    }

    int put(long bytes, int n) {
        return change(x -> x.put(bytes, n));
    }

    void cut(int n) {
        changeBy(x -> x.cut(n));
    }
}
