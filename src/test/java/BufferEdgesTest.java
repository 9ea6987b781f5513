import java.util.function.Supplier;

/** The boundary cases of the buffer and of promises 1 to 7, sentence by sentence. */
public final class BufferEdgesTest {
    private static final Due due = new Due();
    private static final int[] FAR = {Integer.MIN_VALUE, Integer.MIN_VALUE + 1, Integer.MAX_VALUE - 1,
        Integer.MAX_VALUE};

    public static void main(String[] args) {
        callsOfAnObject();
        atMost200();
        allAreBytes();
        noneAtFirst();
        checksumOfFew();
        clearEmpties();
        giveLowestBytes();
        giveHowMany();
        giveMoreThan200();
        fillByte();
        fillHowOften();
        fillMoreThan200();
        heldHowMany();
        atNone();
        atBehindAShorterBuffer();
        due.finish();
    }

    private static Supplier<Zip> filled(int n) {
        return () -> Due.holding(Due.times(7, n));
    }

    private static void callsOfAnObject() {
        due.sentence("An object is used for at most 512 calls after it has been made");
        ZipArray x = new ZipArray();
        x.create();
        x.fill(3, 200);
        for (int i = 0; i < 170; i++) {
            x.add(97, 8, i % 2 == 0);
            x.load(97);
            due.same("remove " + i, x.remove(97), 0);
            if (i % 10 == 9) {
                x.create();
                i++;
            }
        }
        ZipArray y = new ZipArray();
        y.create();
        for (int i = 0; i < 508; i++) {
            y.poke(0, 80);
        }
        due.answers("call 510", 200, () -> y.fill(3, 200));
        due.answers("call 511", 1, () -> y.add(97, 8, true));
        due.answers("call 512", 0, y::check);
    }

    private static void atMost200() {
        due.sentence("THE BUFFER has at most 200 bytes");
        Zip x = filled(200).get();
        due.same("200", x.held(), 200);
        due.same("the last byte", x.at(199), 7);
        due.throwsIt("one more by give", IllegalStateException.class, () -> x.give(1, 1));
        due.throwsIt("one more by fill", IllegalStateException.class, () -> x.fill(1, 1));
        x.create();
        due.answers("200 into an entry", 1, () -> x.add(97, 0, false));
        x.clear();
        due.answers("200 out of it", 200, () -> x.load(97));
        due.answers("200 packed", 5, x::pack);
        due.answers("200 unpacked", 200, x::unpack);
        due.throwsIt("201 unpacked", ArithmeticException.class, () -> Due.holding(new Bits().fixed(true).symbol(7)
            .symbol(7).symbol(284).number(0, 5).distance(0).symbol(256).bytes()).unpack());
    }

    private static void allAreBytes() {
        due.sentence("all 0 .. 255");
        Zip x = new Zip();
        x.give(-1L, 8);
        x.give(0, 8);
        x.give(Long.MIN_VALUE, 8);
        x.give(0x7f80ff00L, 4);
        int[] want = {255, 255, 255, 255, 255, 255, 255, 255, 0, 0, 0, 0, 0, 0, 0, 0, 128, 0, 0, 0, 0, 0, 0, 0, 127,
            128, 255, 0};
        for (int i = 0; i < want.length; i++) {
            due.same("at " + i, x.at(i), want[i]);
        }
        for (int b = 0; b <= 255; b++) {
            Zip y = new Zip();
            y.fill(b, 1);
            y.give(b - 256, 1);
            due.same("a byte that is filled", y.at(0), b);
            due.same("a byte that is given", y.at(1), b);
        }
    }

    private static void noneAtFirst() {
        due.sentence("Buffer and file are empty; not wide");
        Zip x = new Zip();
        due.same("held", x.held(), 0);
        due.same("length", x.length(), 0);
        due.same("crc", x.crc(), 0);
        due.same("check", x.check(), 1);
        Refusal none = new Refusal(due, Zip::new);
        none.of("at 0", IndexOutOfBoundsException.class, y -> y.at(0))
            .of("byteAt 0", IndexOutOfBoundsException.class, y -> y.byteAt(0))
            .of("poke 0", IndexOutOfBoundsException.class, y -> y.poke(0, 0))
            .of("cut 1", IllegalArgumentException.class, y -> y.cut(1))
            .of("unpack", ArithmeticException.class, Zip::unpack)
            .of("add", UnsupportedOperationException.class, y -> y.add(97, 0, false))
            .of("remove", UnsupportedOperationException.class, y -> y.remove(97))
            .of("load", UnsupportedOperationException.class, y -> y.load(97))
            .of("count", UnsupportedOperationException.class, Zip::count)
            .of("about", UnsupportedOperationException.class, y -> y.about(0, 0));
        due.same("clear", x.clear(), 0);
        x.cut(0);
        due.same("cut 0", x.length(), 0);
        due.answers("pack", 2, x::pack);
        x.create();
        due.same("not wide", x.length(), 22);
        x.add(97, 0, false);
        due.same("not wide", x.length(), 22 + 31 + 2 + 47);
    }

    private static void checksumOfFew() {
        due.sentence("r is -1 at first; for each byte r becomes ...; -1 - r in the end");
        due.same("of none", new Zip().crc(), 0);
        for (int b = 0; b <= 255; b++) {
            byte[] one = {(byte) b};
            due.same("of byte " + b, Due.holding(one).crc(), Due.crcOf(one));
        }
        for (int n : new int[] {1, 2, 199, 200}) {
            due.same("of " + n + " bytes 255", Due.holding(Due.times(255, n)).crc(), Due.crcOf(Due.times(255, n)));
            due.same("of " + n + " bytes 0", Due.holding(new byte[n]).crc(), Due.crcOf(new byte[n]));
        }
        due.same("the last byte counts", Due.holding(Due.noRepeats(1, 200)).crc(), Due.crcOf(Due.noRepeats(1, 200)));
    }

    private static void clearEmpties() {
        due.sentence("Empties the buffer: how many bytes it had");
        for (int n : new int[] {0, 1, 199, 200}) {
            Zip x = filled(n).get();
            x.put(5, 3);
            due.same("clear of " + n, x.clear(), n);
            due.same("clear again", x.clear(), 0);
            due.same("held", x.held(), 0);
            due.same("crc", x.crc(), 0);
            due.same("the file stays", x.length(), 3);
            due.throwsIt("at 0", IndexOutOfBoundsException.class, () -> x.at(0));
            due.answers("there is room for 200 again", 200, () -> x.fill(1, 200));
        }
    }

    private static void giveLowestBytes() {
        due.sentence("Puts the n lowest bytes of a number behind the buffer, the highest first");
        for (long number : new long[] {0x1122334455667788L, 0xf1e2d3c4b5a69788L, -1L, 0, Long.MIN_VALUE,
            Long.MAX_VALUE}) {
            for (int n = 1; n <= 8; n++) {
                Zip x = filled(3).get();
                due.same("how many it has", x.give(number, n), 3 + n);
                for (int i = 0; i < n; i++) {
                    due.same("byte " + i + " of " + n, x.at(3 + i), number >> 8 * (n - 1 - i) & 255);
                }
                due.same("what was there", x.at(2), 7);
            }
        }
    }

    private static void giveHowMany() {
        due.sentence("IllegalArgumentException: n is not 1 .. 8");
        due.answers("1", 6, () -> filled(5).get().give(1, 1));
        due.answers("8", 13, () -> filled(5).get().give(1, 8));
        Refusal some = new Refusal(due, filled(5));
        Refusal full = new Refusal(due, filled(200));
        for (int n : new int[] {0, 9, -1, -8, 200, 256 + 1, FAR[0], FAR[1], FAR[2], FAR[3]}) {
            some.of("n " + n, IllegalArgumentException.class, x -> x.give(5, n));
            full.of("it comes first: n " + n + " and no room", IllegalArgumentException.class, x -> x.give(5, n));
        }
    }

    private static void giveMoreThan200() {
        due.sentence("IllegalStateException: there would be more than 200");
        for (int n = 1; n <= 8; n++) {
            int some = n;
            due.answers("just 200 by " + n, 200, () -> filled(200 - some).get().give(3, some));
            new Refusal(due, filled(201 - n)).of("201 by " + n, IllegalStateException.class, x -> x.give(3, some));
            new Refusal(due, filled(200)).of("at 200, " + n, IllegalStateException.class, x -> x.give(3, some));
        }
        Zip x = filled(199).get();
        due.throwsIt("two at 199", IllegalStateException.class, () -> x.give(3, 2));
        due.answers("then one", 200, () -> x.give(3, 1));
    }

    private static void fillByte() {
        due.sentence("IllegalArgumentException: b is not 0 .. 255, or n not 1 .. 200");
        due.answers("b 0", 6, () -> filled(5).get().fill(0, 1));
        due.answers("b 255", 6, () -> filled(5).get().fill(255, 1));
        Refusal some = new Refusal(due, filled(5));
        Refusal full = new Refusal(due, filled(200));
        for (int b : new int[] {-1, 256, -256, 511, FAR[0], FAR[1], FAR[2], FAR[3]}) {
            some.of("b " + b, IllegalArgumentException.class, x -> x.fill(b, 1));
            some.of("b " + b + " and n 0", IllegalArgumentException.class, x -> x.fill(b, 0));
            full.of("it comes first: b " + b + " and no room", IllegalArgumentException.class, x -> x.fill(b, 1));
        }
    }

    private static void fillHowOften() {
        due.sentence("IllegalArgumentException: b is not 0 .. 255, or n not 1 .. 200");
        due.answers("n 1", 1, () -> new Zip().fill(9, 1));
        due.answers("n 200", 200, () -> new Zip().fill(9, 200));
        Refusal none = new Refusal(due, Zip::new);
        Refusal full = new Refusal(due, filled(200));
        for (int n : new int[] {0, 201, -1, -200, 1600, FAR[0], FAR[1], FAR[2], FAR[3]}) {
            none.of("n " + n, IllegalArgumentException.class, x -> x.fill(9, n));
            full.of("it comes first: n " + n + " and no room", IllegalArgumentException.class, x -> x.fill(9, n));
        }
    }

    private static void fillMoreThan200() {
        due.sentence("Puts a byte b so many times behind the buffer. IllegalStateException: there would be more than 200");
        for (int n : new int[] {1, 2, 100, 199}) {
            Zip x = filled(200 - n).get();
            due.answers("just 200 by " + n, 200, () -> x.fill(9, n));
            due.same("the last of what was there", x.at(199 - n), 7);
            due.same("the first of the new ones", x.at(200 - n), 9);
            due.same("the last one", x.at(199), 9);
            new Refusal(due, filled(201 - n)).of("201 by " + n, IllegalStateException.class, y -> y.fill(9, n));
            new Refusal(due, filled(200)).of("at 200, " + n, IllegalStateException.class, y -> y.fill(9, n));
        }
        due.answers("just 200 by 200", 200, () -> new Zip().fill(9, 200));
        new Refusal(due, filled(1)).of("201 by 200", IllegalStateException.class, y -> y.fill(9, 200));
    }

    private static void heldHowMany() {
        due.sentence("How many bytes the buffer has");
        for (int n : new int[] {0, 1, 199, 200}) {
            due.same("held", filled(n).get().held(), n);
        }
    }

    private static void atNone() {
        due.sentence("Byte i of the buffer. IndexOutOfBoundsException: there is none");
        for (int n : new int[] {0, 1, 2, 199, 200}) {
            Zip x = Due.holding(Due.noRepeats(30, n));
            for (int i = 0; i < n; i++) {
                due.same("at " + i, x.at(i), Due.noRepeats(30, n)[i] & 255);
            }
            Refusal some = new Refusal(due, filled(n));
            for (int i : new int[] {-1, n, n + 1, 200, 201, FAR[0], FAR[3]}) {
                some.of("at " + i + " of " + n, IndexOutOfBoundsException.class, y -> y.at(i));
            }
        }
    }

    private static void atBehindAShorterBuffer() {
        due.sentence("IndexOutOfBoundsException: there is none");
        Zip x = filled(200).get();
        x.pack();
        due.same("packed", x.held(), 5);
        due.throwsIt("at 5 of packed ones", IndexOutOfBoundsException.class, () -> x.at(5));
        Due.hold(x, new Bits().plain(true, Due.text("abc")).bytes());
        x.unpack();
        due.throwsIt("at 3 of unpacked ones", IndexOutOfBoundsException.class, () -> x.at(3));
        x.create();
        x.add(97, 0, false);
        x.clear();
        x.fill(1, 200);
        x.load(97);
        due.throwsIt("at 3 of loaded ones", IndexOutOfBoundsException.class, () -> x.at(3));
        due.answers("at 2 of loaded ones", 99, () -> x.at(2));
    }
}
