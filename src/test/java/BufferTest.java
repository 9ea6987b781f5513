import java.util.Random;

/** Promises 1 to 7: a new object, clear, give, fill, held, at, crc. */
public final class BufferTest {
    private static final Due due = new Due();

    public static void main(String[] args) {
        newObject();
        clear();
        give();
        fill();
        at();
        crc();
        due.finish();
    }

    private static void newObject() {
        Zip x = new Zip();
        due.same("new: held", x.held(), 0);
        due.same("new: length", x.length(), 0);
        due.same("new: check", x.check(), 1);
        due.throwsIt("new: at(0)", IndexOutOfBoundsException.class, () -> x.at(0));
        due.throwsIt("new: byteAt(0)", IndexOutOfBoundsException.class, () -> x.byteAt(0));
        x.create();
        due.same("new is not wide: create", x.length(), 22);
        x.add(97, 0, false);
        due.same("new is not wide: add", x.length(), 22 + 31 + 47);
        due.same("NONE", ZipArray.NONE, -1);
        new Zip().fill(1, 5);
        due.same("objects are apart", new Zip().held(), 0);
    }

    private static void clear() {
        Zip x = new Zip();
        due.same("clear of none", x.clear(), 0);
        x.fill(9, 200);
        x.put(1, 1);
        due.same("clear of 200", x.clear(), 200);
        due.same("held after clear", x.held(), 0);
        due.same("clear leaves the file", x.length(), 1);
        due.throwsIt("at(0) after clear", IndexOutOfBoundsException.class, () -> x.at(0));
        due.same("clear again", x.clear(), 0);
    }

    private static void give() {
        Zip x = new Zip();
        due.same("give 3 of 8", x.give(0x0102030405060708L, 3), 3);
        due.sameBytes("lowest bytes, highest first", Due.buffer(x), new byte[] {6, 7, 8});
        due.same("give 8", x.give(0x80ff7f0102030405L, 8), 11);
        due.same("byte of the highest bits", x.at(3), 0x80);
        due.same("byte 255", x.at(4), 255);
        due.same("last", x.at(10), 5);
        due.same("give of -1", x.give(-1L, 1), 12);
        due.same("bytes are not below 0", x.at(11), 255);
        for (int n : new int[] {0, -1, 9, Integer.MIN_VALUE, Integer.MAX_VALUE}) {
            due.throwsIt("give n " + n, IllegalArgumentException.class, () -> x.give(1, n));
        }
        due.same("a throw leaves the buffer", x.held(), 12);
        x.clear();
        x.fill(1, 193);
        due.throwsIt("give over 200", IllegalStateException.class, () -> x.give(5, 8));
        due.throwsIt("give over 200, n wrong too", IllegalArgumentException.class, () -> x.give(5, 9));
        due.same("a throw leaves the buffer", x.held(), 193);
        due.answers("give up to 200", 200, () -> x.give(5, 7));
        due.throwsIt("give at 200", IllegalStateException.class, () -> x.give(5, 1));
    }

    private static void fill() {
        Zip x = new Zip();
        due.same("fill", x.fill(0, 1), 1);
        due.same("fill goes behind, and tells all", x.fill(255, 3), 4);
        due.sameBytes("filled", Due.buffer(x), new byte[] {0, -1, -1, -1});
        due.throwsIt("fill b -1", IllegalArgumentException.class, () -> x.fill(-1, 1));
        due.throwsIt("fill b 256", IllegalArgumentException.class, () -> x.fill(256, 1));
        due.throwsIt("fill n 0", IllegalArgumentException.class, () -> x.fill(1, 0));
        due.throwsIt("fill n -5", IllegalArgumentException.class, () -> x.fill(1, -5));
        due.throwsIt("fill n 201", IllegalArgumentException.class, () -> x.fill(1, 201));
        due.throwsIt("fill n most", IllegalArgumentException.class, () -> x.fill(1, Integer.MAX_VALUE));
        due.throwsIt("fill over 200", IllegalStateException.class, () -> x.fill(1, 197));
        due.throwsIt("fill 200 over 200", IllegalStateException.class, () -> x.fill(1, 200));
        due.same("a throw leaves the buffer", x.held(), 4);
        due.answers("fill up to 200", 200, () -> x.fill(1, 196));
        due.throwsIt("fill at 200", IllegalStateException.class, () -> x.fill(1, 1));
        due.throwsIt("fill at 200, b wrong too", IllegalArgumentException.class, () -> x.fill(-1, 1));
        due.answers("fill 200 at once", 200, () -> new Zip().fill(7, 200));
    }

    private static void at() {
        Zip x = Due.holding(Due.text("abc"));
        due.same("held", x.held(), 3);
        due.same("at 0", x.at(0), 97);
        due.same("at 2", x.at(2), 99);
        for (int i : new int[] {-1, 3, 199, 200, Integer.MIN_VALUE, Integer.MAX_VALUE}) {
            due.throwsIt("at " + i, IndexOutOfBoundsException.class, () -> x.at(i));
        }
        x.clear();
        due.throwsIt("at 0 behind clear", IndexOutOfBoundsException.class, () -> x.at(0));
    }

    private static void crc() {
        due.same("crc of none", new Zip().crc(), 0);
        due.same("crc of 123456789", Due.holding(Due.text("123456789")).crc(), 0xcbf43926);
        Random random = new Random(7);
        for (int i = 0; i < 50; i++) {
            byte[] bytes = new byte[random.nextInt(201)];
            random.nextBytes(bytes);
            Zip x = Due.holding(bytes);
            due.same("crc of " + Due.hex(bytes), x.crc(), Due.crcOf(bytes));
            due.same("crc leaves the buffer", x.held(), bytes.length);
        }
    }
}
