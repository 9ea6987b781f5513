/** Promises 18 to 22: length, byteAt, poke, put, cut. */
public final class FileTest {
    private static final Due due = new Due();

    public static void main(String[] args) {
        put();
        byteAt();
        poke();
        cut();
        due.finish();
    }

    private static void put() {
        Zip x = new Zip();
        due.same("length of none", x.length(), 0);
        due.same("put 2", x.put(0x010203L, 2), 2);
        due.same("put 8", x.put(0xfedcba9876543210L, 8), 10);
        due.sameBytes("lowest bytes, highest first", Due.file(x),
            new byte[] {2, 3, (byte) 0xfe, (byte) 0xdc, (byte) 0xba, (byte) 0x98, 0x76, 0x54, 0x32, 0x10});
        due.same("put leaves the buffer", x.held(), 0);
        for (int n : new int[] {0, -1, 9, Integer.MIN_VALUE, Integer.MAX_VALUE}) {
            due.throwsIt("put n " + n, IllegalArgumentException.class, () -> x.put(1, n));
        }
        due.same("a throw leaves the file", x.length(), 10);
        for (int i = 0; i < 198; i++) {
            x.put(i, 8);
        }
        due.same("length 1594", x.length(), 1594);
        due.throwsIt("put over 1600", IllegalStateException.class, () -> x.put(1, 7));
        due.throwsIt("put over 1600, n wrong too", IllegalArgumentException.class, () -> x.put(1, 9));
        due.same("a throw leaves the file", x.length(), 1594);
        due.answers("put up to 1600", 1600, () -> x.put(1, 6));
        due.throwsIt("put at 1600", IllegalStateException.class, () -> x.put(1, 1));
        due.same("length 1600", x.length(), 1600);
        due.same("byte 1599", x.byteAt(1599), 1);
        due.same("check of 1600", x.check(), 1);
    }

    private static void byteAt() {
        Zip x = Due.lying(new byte[] {1, (byte) 200, 3});
        due.same("byte 0", x.byteAt(0), 1);
        due.same("byte 1", x.byteAt(1), 200);
        due.same("byte 2", x.byteAt(2), 3);
        for (int k : new int[] {-1, 3, 1599, 1600, Integer.MIN_VALUE, Integer.MAX_VALUE}) {
            due.throwsIt("byteAt " + k, IndexOutOfBoundsException.class, () -> x.byteAt(k));
        }
    }

    private static void poke() {
        Zip x = Due.lying(new byte[] {1, 2, 3});
        x.poke(1, 255);
        x.poke(2, 0);
        due.sameBytes("poked", Due.file(x), new byte[] {1, -1, 0});
        for (int k : new int[] {-1, 3, 1600, Integer.MIN_VALUE, Integer.MAX_VALUE}) {
            due.throwsDeed("poke " + k, IndexOutOfBoundsException.class, () -> x.poke(k, 1));
            due.throwsDeed("poke both wrong " + k, IndexOutOfBoundsException.class, () -> x.poke(k, 256));
        }
        for (int b : new int[] {-1, 256, Integer.MIN_VALUE, Integer.MAX_VALUE}) {
            due.throwsDeed("poke of " + b, IllegalArgumentException.class, () -> x.poke(0, b));
        }
        due.sameBytes("a throw leaves the file", Due.file(x), new byte[] {1, -1, 0});
    }

    private static void cut() {
        Zip x = Due.lying(new byte[] {1, 2, 3, 4});
        due.throwsDeed("cut -1", IllegalArgumentException.class, () -> x.cut(-1));
        due.throwsDeed("cut 5", IllegalArgumentException.class, () -> x.cut(5));
        due.throwsDeed("cut least", IllegalArgumentException.class, () -> x.cut(Integer.MIN_VALUE));
        due.throwsDeed("cut most", IllegalArgumentException.class, () -> x.cut(Integer.MAX_VALUE));
        x.cut(4);
        due.same("cut of nothing", x.length(), 4);
        x.cut(2);
        due.sameBytes("cut to 2", Due.file(x), new byte[] {1, 2});
        due.throwsIt("byteAt behind the cut", IndexOutOfBoundsException.class, () -> x.byteAt(2));
        due.throwsDeed("cut to more again", IllegalArgumentException.class, () -> x.cut(3));
        x.cut(0);
        due.same("cut to 0", x.length(), 0);
        x.put(9, 1);
        due.sameBytes("put behind the cut", Due.file(x), new byte[] {9});
    }
}
