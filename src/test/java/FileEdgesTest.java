import java.util.Arrays;
import java.util.function.Supplier;

/** The boundary cases of the file and of promises 18 to 22, sentence by sentence. */
public final class FileEdgesTest {
    private static final Due due = new Due();
    private static final int[] FAR = {Integer.MIN_VALUE, Integer.MIN_VALUE + 1, Integer.MAX_VALUE - 1,
        Integer.MAX_VALUE};

    public static void main(String[] args) {
        atMost1600();
        allAreBytes();
        lengthHowMany();
        byteAtNone();
        pokeNone();
        pokeByte();
        putLowestBytes();
        putHowMany();
        putMoreThan1600();
        cutKeepsFirst();
        cutRefused();
        due.finish();
    }

    private static Supplier<Zip> filled(int n) {
        return () -> Due.lying(Due.times(7, n));
    }

    private static void atMost1600() {
        due.sentence("THE FILE at most 1600");
        Zip x = filled(1600).get();
        due.same("1600", x.length(), 1600);
        due.same("the last byte", x.byteAt(1599), 7);
        due.throwsIt("one more", IllegalStateException.class, () -> x.put(1, 1));
        byte[] end = new Bytes().raw(new byte[1578]).end(0, 0, 1578, "").all();
        Zip y = Due.lying(end);
        due.answers("an archive of 1600", 0, y::check);
        due.answers("an archive of 1600", 0, y::count);
        due.throwsIt("one entry more", IllegalStateException.class, () -> y.add(97, 0, false));
    }

    private static void allAreBytes() {
        due.sentence("all 0 .. 255");
        Zip x = new Zip();
        x.put(-1L, 8);
        x.put(Long.MIN_VALUE, 8);
        due.sameBytes("put", Due.file(x), new Bytes().n(-1, 8).n(0x80, 8).all());
        due.same("255", x.byteAt(0), 255);
        due.same("128", x.byteAt(8), 128);
        for (int b = 0; b <= 255; b++) {
            x.poke(3, b);
            due.same("poke", x.byteAt(3), b);
        }
    }

    private static void lengthHowMany() {
        due.sentence("How many bytes the file has");
        for (int n : new int[] {0, 1, 1599, 1600}) {
            Zip x = filled(n).get();
            x.fill(1, 5);
            due.same("length", x.length(), n);
        }
        Zip x = filled(1600).get();
        x.create();
        due.same("of a new archive", x.length(), 22);
        x.cut(0);
        due.same("of nothing", x.length(), 0);
    }

    private static void byteAtNone() {
        due.sentence("Byte k of the file. IndexOutOfBoundsException: there is none");
        for (int n : new int[] {0, 1, 2, 1599, 1600}) {
            Zip x = Due.lying(Due.noRepeats(60, n));
            for (int k : new int[] {0, 1, n / 2, n - 2, n - 1}) {
                if (k >= 0 && k < n) {
                    due.answers("byte " + k, Due.noRepeats(60, n)[k] & 255, () -> x.byteAt(k));
                }
            }
            Refusal some = new Refusal(due, filled(n));
            for (int k : new int[] {-1, n, n + 1, 1600, 1601, FAR[0], FAR[3]}) {
                some.of("byte " + k + " of " + n, IndexOutOfBoundsException.class, y -> y.byteAt(k));
            }
        }
        Zip x = filled(1600).get();
        x.create();
        due.answers("the last of a shorter file", 0, () -> x.byteAt(21));
        due.throwsIt("behind a shorter file", IndexOutOfBoundsException.class, () -> x.byteAt(22));
    }

    private static void pokeNone() {
        due.sentence("Byte k of the file becomes b. IndexOutOfBoundsException: there is none");
        for (int n : new int[] {0, 1, 1599, 1600}) {
            for (int k : new int[] {0, n - 1}) {
                if (k >= 0 && k < n) {
                    Zip x = filled(n).get();
                    x.poke(k, 8);
                    for (int i : new int[] {0, 1, n / 2, n - 2, n - 1}) {
                        if (i >= 0 && i < n) {
                            due.same("byte " + i + " behind poke " + k, x.byteAt(i), i == k ? 8 : 7);
                        }
                    }
                    due.same("length", x.length(), n);
                }
            }
            Refusal some = new Refusal(due, filled(n));
            for (int k : new int[] {-1, n, 1600, FAR[0], FAR[3]}) {
                some.of("poke " + k + " of " + n, IndexOutOfBoundsException.class, y -> y.poke(k, 1));
                some.of("it comes first: poke " + k + ", b 256", IndexOutOfBoundsException.class, y -> y.poke(k, 256));
                some.of("it comes first: poke " + k + ", b -1", IndexOutOfBoundsException.class, y -> y.poke(k, -1));
            }
        }
    }

    private static void pokeByte() {
        due.sentence("IllegalArgumentException: b is not 0 .. 255");
        for (int b : new int[] {0, 255}) {
            Zip x = filled(2).get();
            x.poke(1, b);
            due.same("poke of " + b, x.byteAt(1), b);
        }
        Refusal some = new Refusal(due, filled(2));
        for (int b : new int[] {-1, 256, -256, 512 + 7, FAR[0], FAR[1], FAR[2], FAR[3]}) {
            some.of("poke of " + b, IllegalArgumentException.class, x -> x.poke(0, b));
            some.of("poke of " + b + " at the end", IllegalArgumentException.class, x -> x.poke(1, b));
        }
    }

    private static void putLowestBytes() {
        due.sentence("Puts the n lowest bytes of a number behind the file, the highest first");
        for (long number : new long[] {0x1122334455667788L, 0xf1e2d3c4b5a69788L, -1L, 0, Long.MIN_VALUE,
            Long.MAX_VALUE}) {
            for (int n = 1; n <= 8; n++) {
                Zip x = filled(3).get();
                due.same("how many it has", x.put(number, n), 3 + n);
                for (int i = 0; i < n; i++) {
                    due.same("byte " + i + " of " + n, x.byteAt(3 + i), number >> 8 * (n - 1 - i) & 255);
                }
                due.same("what was there", x.byteAt(2), 7);
                due.same("the buffer stays", x.held(), 0);
            }
        }
    }

    private static void putHowMany() {
        due.sentence("IllegalArgumentException: n is not 1 .. 8");
        due.answers("1", 6, () -> filled(5).get().put(1, 1));
        due.answers("8", 13, () -> filled(5).get().put(1, 8));
        Refusal some = new Refusal(due, filled(5));
        Refusal full = new Refusal(due, filled(1600));
        for (int n : new int[] {0, 9, -1, -8, 256 + 1, FAR[0], FAR[1], FAR[2], FAR[3]}) {
            some.of("n " + n, IllegalArgumentException.class, x -> x.put(5, n));
            full.of("it comes first: n " + n + " and no room", IllegalArgumentException.class, x -> x.put(5, n));
        }
    }

    private static void putMoreThan1600() {
        due.sentence("IllegalStateException: there would be more than 1600");
        for (int n = 1; n <= 8; n++) {
            int some = n;
            due.answers("just 1600 by " + n, 1600, () -> filled(1600 - some).get().put(3, some));
            new Refusal(due, filled(1601 - n)).of("1601 by " + n, IllegalStateException.class, x -> x.put(3, some));
            new Refusal(due, filled(1600)).of("at 1600, " + n, IllegalStateException.class, x -> x.put(3, some));
        }
        Zip x = filled(1599).get();
        due.throwsIt("two at 1599", IllegalStateException.class, () -> x.put(3, 2));
        due.answers("then one", 1600, () -> x.put(3, 1));
    }

    private static void cutKeepsFirst() {
        due.sentence("The file keeps its first n bytes");
        for (int n : new int[] {0, 1, 2, 99, 100}) {
            Zip x = Due.lying(Due.noRepeats(40, 100));
            x.fill(1, 4);
            x.cut(n);
            due.sameBytes("cut to " + n, Due.file(x), Arrays.copyOf(Due.noRepeats(40, 100), n));
            due.same("the buffer stays", x.held(), 4);
            due.throwsIt("behind the cut", IndexOutOfBoundsException.class, () -> x.byteAt(n));
            due.same("put behind the cut", x.put(5, 1), n + 1);
            due.same("put behind the cut", x.byteAt(n), 5);
        }
        Zip x = filled(1600).get();
        x.cut(1600);
        due.same("all of 1600", x.length(), 1600);
        x.cut(1599);
        due.answers("room for one", 1600, () -> x.put(1, 1));
    }

    private static void cutRefused() {
        due.sentence("IllegalArgumentException: n is below 0, or it has not so many");
        for (int n : new int[] {0, 1, 50, 1600}) {
            Refusal some = new Refusal(due, filled(n));
            for (int more : new int[] {-1, n + 1, 1601, FAR[0], FAR[1], FAR[2], FAR[3]}) {
                some.of("cut " + more + " of " + n, IllegalArgumentException.class, x -> x.cut(more));
            }
        }
        Zip x = filled(20).get();
        x.cut(10);
        due.throwsDeed("what was cut off is not there", IllegalArgumentException.class, () -> x.cut(11));
        due.same("what was cut off is not there", x.length(), 10);
    }
}
