import java.util.Arrays;
import java.util.function.Consumer;

/** Promise 17: check, and what load says of the same archives. */
public final class CheckTest {
    private static final Due due = new Due();
    private static final byte[] TEXT = Due.text("some text, some text");

    public static void main(String[] args) {
        theEnd();
        theRemark();
        theWideEnd();
        theDirectory();
        theParts();
        extrasOfParts();
        wideParts();
        numbersOfParts();
        names();
        localParts();
        localExtras();
        tooFar();
        inCommon();
        behind();
        packedOnes();
        cutPlain();
        sizesAndSums();
        whatIsFirst();
        due.finish();
    }

    private static void checks(String what, int want, byte[] file) {
        due.answers(what, want, () -> Due.lying(file).check());
    }

    private static void checks(String what, int want, Bytes file) {
        checks(what, want, file.all());
    }

    private static byte[] poked(byte[] file, int... pairs) {
        byte[] other = file.clone();
        for (int i = 0; i < pairs.length; i += 2) {
            other[pairs[i]] = (byte) pairs[i + 1];
        }
        return other;
    }

    private static Bytes.Item item(String name, int offset) {
        return new Bytes.Item(name, 0, false, TEXT, offset);
    }

    /** An archive of one entry, once it has been turned wrong. */
    private static byte[] one(Consumer<Bytes.Item> turn) {
        return one(new Bytes.Item("a", 0, false, TEXT, 0), turn);
    }

    private static byte[] one(Bytes.Item e, Consumer<Bytes.Item> turn) {
        turn.accept(e);
        return Bytes.archive("", e);
    }

    private static void theEnd() {
        byte[] end = new Bytes().end(0, 0, 0, "").all();
        checks("no bytes", 1, new byte[0]);
        checks("just an end", 0, end);
        checks("21 bytes", 1, Arrays.copyOf(end, 21));
        checks("a byte behind", 1, Arrays.copyOf(end, 23));
        for (int i = 0; i < 4; i++) {
            checks("mark, byte " + i, 1, poked(end, i, 0));
        }
        checks("the remark is too long", 1, poked(end, 20, 1));
        checks("the remark is far too long", 1, poked(end, 21, 1));
        checks("numbers without a meaning", 0, poked(end, 4, 9, 5, 9, 6, 9, 7, 9));
        checks("bytes before", 2, new Bytes().text("x").end(0, 0, 0, ""));
        checks("bytes before, that do not count", 0, new Bytes().text("x").end(0, 0, 1, ""));
        checks("counts are not the same", 2, poked(end, 8, 1));
        checks("counts are not the same", 2, poked(end, 10, 1));
        checks("no parts", 2, poked(end, 8, 1, 10, 1));
        checks("counts that are the same in their low bytes alone", 2, poked(end, 9, 1));
        checks("counts above 8", 2, poked(end, 9, 1, 11, 1));
        checks("the directory begins behind its end", 2, poked(end, 16, 1));
        checks("the directory has a byte", 2, poked(end, 12, 1));
        checks("a size that is wide", 2, poked(end, 12, 255, 13, 255, 14, 255, 15, 255));
        checks("offset and size that come out even by going round", 2,
            new Bytes().text("x").end(0, 0xffffffffL, 2, ""));
        checks("a file of 1600", 0, new Bytes().raw(new byte[1578]).end(0, 0, 1578, ""));
    }

    private static void theRemark() {
        checks("a remark", 0, new Bytes().end(0, 0, 0, "remark"));
        String inner = new String(new Bytes().end(0, 0, 22, "").all(), java.nio.charset.StandardCharsets.ISO_8859_1);
        checks("the last end counts", 0, new Bytes().end(1, 5, 1, inner));
        checks("the last end counts, and is wrong", 2, new Bytes().end(0, 0, 0, inner.replace((char) 22, (char) 9)));
        checks("a mark in the remark is no end", 0, new Bytes().end(0, 0, 0, "PK\5\6 and so on, up to the end...."));
        checks("a mark at the end is no end", 0, new Bytes().end(0, 0, 0, "PK\5\6"));
        checks("an end whose remark is not up to the end", 0, new Bytes().end(0, 0, 0, inner + "x"));
        checks("a remark of 300", 0, new Bytes().end(0, 0, 0, "r".repeat(300)));
    }

    private static void theWideEnd() {
        byte[] end = new Bytes().wideBefore(0, 0, 0).end(65535, -1, -1, "").all();
        checks("wide", 0, end);
        checks("wide, other numbers do not count", 0, new Bytes().wideBefore(0, 0, 0).end(7, 3, -1, ""));
        checks("wide, with a remark", 0, new Bytes().wideBefore(0, 0, 0).end(65535, -1, -1, "rem"));
        checks("wide, bytes before", 0, new Bytes().text("abc").wideBefore(0, 0, 3).end(65535, -1, -1, ""));
        checks("the offset is not wide", 2, poked(end, 76 + 16, 254));
        checks("nothing before", 2, new Bytes().end(65535, -1, -1, ""));
        checks("75 bytes before", 2, Arrays.copyOfRange(end, 1, 98));
        for (int i = 0; i < 4; i++) {
            checks("first mark, byte " + i, 2, poked(end, i, 1));
            checks("second mark, byte " + i, 2, poked(end, 56 + i, 1));
        }
        for (int i = 4; i < 12; i++) {
            checks("44, byte " + i, 2, poked(end, i, 45));
        }
        for (int i = 12; i < 24; i++) {
            checks("no meaning, byte " + i, 0, poked(end, i, 45));
        }
        for (int i = 24; i < 56; i++) {
            checks("counts, size, offset, byte " + i, 2, poked(end, i, 1));
        }
        for (int i = 32; i < 40; i++) {
            checks("both counts, byte " + i, 2, poked(end, i, 9, i - 8, 9));
        }
        for (int i = 60; i < 64; i++) {
            checks("no meaning, byte " + i, 0, poked(end, i, 45, i + 12, 45));
        }
        for (int i = 64; i < 72; i++) {
            checks("place, byte " + i, 2, poked(end, i, 1));
        }
        Bytes apart = new Bytes().n(0x06064b50, 4).n(44, 8).n(0, 44).text(".").n(0x07064b50, 4).n(0, 16);
        checks("not directly before", 2, apart.end(65535, -1, -1, ""));
        checks("going round", 2, new Bytes().wideBefore(0, 1, -1).end(65535, -1, -1, ""));
        checks("below 0", 2, new Bytes().wideBefore(-1, 0, 0).end(65535, -1, -1, ""));
        Bytes.Item a = item("a", 0);
        Bytes b = new Bytes().local(a);
        int start = b.size();
        b.part(a);
        checks("wide with an entry", 0, b.wideBefore(1, b.size() - start, start).end(65535, -1, -1, ""));
        checks("not wide, counts 65535", 2, new Bytes().local(a).part(a).end(65535, 47, start, ""));
    }

    private static void theDirectory() {
        Bytes.Item a = item("a", 0);
        Bytes.Item b = item("b", 51);
        byte[] two = Bytes.archive("", a, b);
        checks("two", 0, two);
        int end = two.length - 22;
        checks("one of two", 2, poked(two, end + 8, 1, end + 10, 1));
        checks("three of two", 2, poked(two, end + 8, 3, end + 10, 3));
        checks("the size is one less", 2, poked(two, end + 12, 93));
        checks("it begins one later", 2, poked(two, end + 12, 93, end + 16, 103));
        checks("it begins one part later", 2, poked(two, end + 12, 47, end + 16, 102 + 47));
        checks("it begins one part later, one entry", 0,
            poked(two, end + 12, 47, end + 16, 102 + 47, end + 8, 1, end + 10, 1));
        checks("a byte behind the parts", 2, new Bytes().local(a).part(a).text(".").end(1, 48, 51, ""));
        Bytes.Item[] nine = new Bytes.Item[9];
        Bytes locals = new Bytes();
        for (int i = 0; i < 9; i++) {
            nine[i] = item("" + i, 51 * i);
            locals.local(nine[i]);
        }
        checks("nine", 2, locals.directory("", nine));
        checks("eight of them", 0, Bytes.archive("", Arrays.copyOf(nine, 8)));
    }

    private static void theParts() {
        byte[] one = one(e -> { });
        int part = 51;
        checks("one", 0, one);
        for (int i = 0; i < 4; i++) {
            checks("mark of a part, byte " + i, 2, poked(one, part + i, 0));
        }
        for (int i : new int[] {4, 5, 6, 7, 12, 13, 14, 15, 34, 35, 36, 37, 38, 39, 40, 41}) {
            checks("no meaning, byte " + i, 0, poked(one, part + i, 200));
        }
        for (int flags : new int[] {1, 2, 4, 7, 9, 16, 128}) {
            checks("flags " + flags, 2, poked(one, part + 8, flags, 6, flags));
            checks("method " + flags, 2, poked(one, part + 10, flags, 8, flags));
        }
        checks("flags above 255", 2, poked(one, part + 9, 8, 7, 8));
        checks("method above 255", 2, poked(one, part + 11, 8, 9, 8));
        checks("a name of 0", 2, one(e -> e.name = ""));
        checks("a name of 4", 2, one(e -> e.name = "abcd"));
        for (String bad : new String[] {" ", "\177", "a ", " a", "ab\0", "a\200b", "\377"}) {
            checks("name " + bad, 2, one(e -> e.name = bad));
        }
        for (String good : new String[] {"!", "~", "!~", "~!x"}) {
            checks("name " + good, 0, one(e -> e.name = good));
        }
        checks("a remark", 0, one(e -> e.remark = "rem"));
        checks("a remark that lacks", 2, poked(one, part + 32, 1));
        checks("extras that lack", 2, poked(one, part + 30, 4));
        checks("extras far beyond", 2, poked(one, part + 31, 255));
        checks("a name that lacks", 2, poked(one, part + 28, 2));
        byte[] cut = new Bytes().local(item("a", 0)).n(0x02014b50, 4).n(0, 41).end(1, 45, 51, "").all();
        checks("a part of 45 bytes", 2, cut);
    }

    private static void extrasOfParts() {
        byte[] other = Bytes.record(99, Due.text("xyz"));
        checks("a record", 0, one(e -> e.extras = other));
        checks("an empty record", 0, one(e -> e.extras = Bytes.record(0, new byte[0])));
        checks("two records", 0, one(e -> e.extras = new Bytes().raw(other).raw(other).all()));
        for (int n = 1; n < 7; n++) {
            byte[] cut = Arrays.copyOf(other, n);
            checks("a record cut to " + n, 2, one(e -> e.extras = cut));
        }
        for (int n = 8; n < 14; n++) {
            byte[] cut = Arrays.copyOf(new Bytes().raw(other).raw(other).all(), n);
            checks("two records cut to " + n, 2, one(e -> e.extras = cut));
        }
        checks("a record that ends in the remark", 2, one(e -> {
            e.extras = Arrays.copyOf(other, 6);
            e.remark = "z";
        }));
        checks("a record of kind 1 that nobody needs", 0, one(e -> e.extras = Bytes.record(1, Due.text("x"))));
    }

    private static void wideParts() {
        checks("size", 0, one(e -> {
            e.extras = Bytes.wides(e.size);
            e.size = -1;
        }));
        checks("packed size", 0, one(e -> {
            e.extras = Bytes.wides(e.packedSize);
            e.packedSize = -1;
        }));
        checks("offset", 0, one(e -> {
            e.extras = Bytes.wides(e.offset);
            e.offset = -1;
        }));
        Bytes.Item b = new Bytes.Item("b", 8, false, TEXT, 0);
        int packedSize = (int) b.packedSize;
        b.extras = Bytes.wides(b.size, b.packedSize, 0);
        b.size = -1;
        b.packedSize = -1;
        b.offset = -1;
        checks("all in their order", 0, Bytes.archive("", b));
        Zip x = Due.lying(Bytes.archive("", b));
        due.answers("size is told", TEXT.length, () -> x.about(0, 5));
        due.answers("packed size is told", packedSize, () -> x.about(0, 4));
        due.answers("offset is told", 0, () -> x.about(0, 6));
        Consumer<Bytes.Item> later = e -> {
            e.extras = Bytes.wides(e.size, e.packedSize, e.offset);
            e.size = -1;
            e.packedSize = -1;
            e.offset = -1;
        };
        checks("wide with flags 8", 0, one(new Bytes.Item("a", 8, true, TEXT, 0), later));
        checks("no record", 2, one(e -> e.size = -1));
        checks("no record of kind 1", 2, one(e -> {
            e.extras = Bytes.record(2, new byte[24]);
            e.size = -1;
        }));
        checks("of kind 257", 2, one(e -> {
            e.extras = Bytes.record(257, new Bytes().n(e.size, 8).all());
            e.size = -1;
        }));
        checks("a record that is too short", 2, one(e -> {
            e.extras = Bytes.record(1, new Bytes().n(e.size, 7).all());
            e.size = -1;
        }));
        checks("a record that is too short, and 0 behind", 2, one(e -> {
            e.extras = new Bytes().n(1, 2).n(7, 2).n(e.size, 7).n(0, 4).all();
            e.size = -1;
        }));
        checks("a second number that lacks", 2, one(e -> {
            e.extras = Bytes.wides(e.size);
            e.size = -1;
            e.offset = -1;
        }));
        checks("a record that goes on", 0, one(e -> {
            e.extras = Bytes.wides(e.size, 7, 7, 7);
            e.size = -1;
        }));
        checks("behind another record", 0, one(e -> {
            e.extras = new Bytes().raw(Bytes.record(9, Due.text("abc"))).raw(Bytes.wides(e.size)).all();
            e.size = -1;
        }));
        checks("the first of kind 1 counts", 0, one(e -> {
            e.extras = new Bytes().raw(Bytes.wides(e.size)).raw(Bytes.wides(999)).all();
            e.size = -1;
        }));
        checks("the first of kind 1 counts, and is too short", 2, one(e -> {
            e.extras = new Bytes().raw(Bytes.wides()).raw(Bytes.wides(e.size)).all();
            e.size = -1;
        }));
    }

    private static void numbersOfParts() {
        byte[] full = new byte[200];
        Bytes.Item most = new Bytes.Item("a", 0, false, full, 0);
        checks("a size of 200", 0, Bytes.archive("", most));
        checks("a size of 201", 2, one(new Bytes.Item("a", 0, false, new byte[201], 0), e -> { }));
        checks("a size of 201 alone", 2, one(e -> e.size = 201));
        checks("a size of 2 to the 31", 2, one(e -> e.size = 0x80000000L));
        checks("a wide size below 0", 2, one(e -> {
            e.extras = Bytes.wides(Long.MIN_VALUE + e.size);
            e.size = -1;
        }));
        checks("a wide size of 201", 2, one(e -> {
            e.extras = Bytes.wides(201);
            e.size = -1;
        }));
        checks("a wide size that is wide", 2, one(e -> {
            e.extras = Bytes.wides(-1);
            e.size = -1;
        }));
        checks("a wide size above 32 bits", 2, one(e -> {
            e.extras = Bytes.wides(e.size + (1L << 32));
            e.size = -1;
        }));
        checks("a packed size as the directory's offset", 3, one(e -> e.packedSize = 51));
        checks("a packed size above it", 2, one(e -> e.packedSize = 52));
        checks("a wide packed size above it", 2, one(e -> {
            e.extras = Bytes.wides(52);
            e.packedSize = -1;
        }));
        checks("a wide packed size above 32 bits", 2, one(e -> {
            e.extras = Bytes.wides(e.packedSize + (1L << 32));
            e.packedSize = -1;
        }));
        checks("an offset as the directory's", 3, one(e -> e.offset = 51));
        checks("an offset above it", 2, one(e -> e.offset = 52));
        checks("a wide offset above it", 2, one(e -> {
            e.extras = Bytes.wides(52);
            e.offset = -1;
        }));
        checks("a wide offset above 32 bits", 2, one(e -> {
            e.extras = Bytes.wides(e.offset + (1L << 32));
            e.offset = -1;
        }));
        checks("a wide offset below 0", 2, one(e -> {
            e.extras = Bytes.wides(-5);
            e.offset = -1;
        }));
    }

    private static void names() {
        checks("twice", 2, Bytes.archive("", item("x", 0), item("y", 51), item("x", 102)));
        checks("not twice", 0, Bytes.archive("", item("x", 0), item("xx", 51), item("xxx", 103)));
    }

    private static void localParts() {
        byte[] one = one(e -> { });
        for (int i : new int[] {0, 1, 2, 3, 6, 7, 8, 9, 14, 15, 16, 17, 18, 19, 20, 21, 22, 23, 24, 25, 26, 27, 28, 29,
            30}) {
            checks("local part, byte " + i, 3, poked(one, i, one[i] ^ 66));
        }
        for (int i : new int[] {4, 5, 10, 11, 12, 13}) {
            checks("no meaning, byte " + i, 0, poked(one, i, 99));
        }
        checks("flags are 8 there alone", 3, poked(one, 6, 8));
        checks("method is 8 there alone", 3, poked(one, 8, 8));
        checks("0 with flags 0", 3, one(e -> {
            e.localCrc = 0;
            e.localSize = 0;
            e.localPackedSize = 0;
        }));
        checks("a longer name there", 3, new Bytes().local(item("ab", 0)).directory("", item("a", 0)));
        checks("not whole before the directory", 3, one(e -> e.offset = 22));
        byte[] empty = Bytes.archive("", new Bytes.Item("a", 0, false, new byte[0], 0));
        checks("whole up to the directory", 0, empty);
        checks("extras go beyond the directory's beginning", 3, poked(empty, 28, 4));
        checks("the name goes beyond the directory's beginning", 3, poked(empty, 26, 2));
        Bytes.Item later = new Bytes.Item("a", 0, true, TEXT, 0);
        byte[] with8 = Bytes.archive("", later);
        checks("flags 8", 0, with8);
        for (int i = 14; i < 26; i++) {
            checks("flags 8: not 0, byte " + i, 3, poked(with8, i, 1));
        }
        checks("flags 8: as in the directory, not 0", 3, one(new Bytes.Item("a", 0, true, TEXT, 0), e -> {
            e.localCrc = e.crc;
            e.localSize = e.size;
            e.localPackedSize = e.packedSize;
        }));
        checks("flags 8: wide, not 0", 3, one(new Bytes.Item("a", 0, true, TEXT, 0), e -> {
            e.localExtras = Bytes.wides(e.size, e.packedSize);
            e.localSize = -1;
            e.localPackedSize = -1;
        }));
        byte[] elsewhere = new Bytes().text("before").local(item("a", 6)).text("behind")
            .directory("", item("a", 6)).all();
        checks("bytes of no entry", 0, elsewhere);
    }

    private static void localExtras() {
        checks("a record", 0, one(e -> e.localExtras = Bytes.record(5, Due.text("12"))));
        for (int n = 1; n < 6; n++) {
            byte[] cut = Arrays.copyOf(Bytes.record(5, Due.text("12")), n);
            checks("a record cut to " + n, 3, one(e -> e.localExtras = cut));
        }
        checks("both wide", 0, one(e -> {
            e.localExtras = Bytes.wides(e.size, e.packedSize);
            e.localSize = -1;
            e.localPackedSize = -1;
        }));
        checks("size alone is wide", 3, one(e -> {
            e.localExtras = Bytes.wides(e.size, e.packedSize);
            e.localSize = -1;
        }));
        checks("packed size alone is wide", 3, one(e -> {
            e.localExtras = Bytes.wides(e.packedSize, e.packedSize);
            e.localPackedSize = -1;
        }));
        checks("no record", 3, one(e -> {
            e.localSize = -1;
            e.localPackedSize = -1;
        }));
        checks("one number alone", 3, one(e -> {
            e.localExtras = Bytes.wides(e.size);
            e.localSize = -1;
            e.localPackedSize = -1;
        }));
        checks("a number that is too short, and 0 behind", 3, one(e -> {
            e.localExtras = new Bytes().n(1, 2).n(15, 2).n(e.size, 8).n(e.packedSize, 7).n(0, 4).all();
            e.localSize = -1;
            e.localPackedSize = -1;
        }));
        checks("another size", 3, one(e -> {
            e.localExtras = Bytes.wides(e.size + 1, e.packedSize);
            e.localSize = -1;
            e.localPackedSize = -1;
        }));
        checks("another packed size", 3, one(e -> {
            e.localExtras = Bytes.wides(e.size, e.packedSize + (1L << 40));
            e.localSize = -1;
            e.localPackedSize = -1;
        }));
        checks("another CRC", 3, one(e -> {
            e.localExtras = Bytes.wides(e.size, e.packedSize);
            e.localSize = -1;
            e.localPackedSize = -1;
            e.localCrc = 0;
        }));
        checks("the order: size, packed size", 0, one(new Bytes.Item("a", 8, false, TEXT, 0), e -> {
            e.localExtras = Bytes.wides(e.size, e.packedSize);
            e.localSize = -1;
            e.localPackedSize = -1;
        }));
        checks("the other order", 3, one(new Bytes.Item("a", 8, false, TEXT, 0), e -> {
            e.localExtras = Bytes.wides(e.packedSize, e.size);
            e.localSize = -1;
            e.localPackedSize = -1;
        }));
        checks("the first of kind 1 counts", 0, one(e -> {
            e.localExtras = new Bytes().raw(Bytes.wides(e.size, e.packedSize)).raw(Bytes.wides(1, 1)).all();
            e.localSize = -1;
            e.localPackedSize = -1;
        }));
    }

    private static void tooFar() {
        Bytes.Item a = item("a", 0);
        a.content = Arrays.copyOf(TEXT, TEXT.length - 1);
        checks("content goes beyond", 4, Bytes.archive("", a));
        Bytes.Item b = new Bytes.Item("a", 0, true, TEXT, 0);
        byte[] all = new Bytes().local(b).all();
        checks("what stands behind is whole", 0, new Bytes().raw(all).directory("", b));
        checks("what stands behind goes beyond", 4, new Bytes().raw(Arrays.copyOf(all, all.length - 1))
            .directory("", b));
        checks("nothing stands behind", 4, new Bytes().raw(Arrays.copyOf(all, all.length - 16)).directory("", b));
    }

    /** An entry that lies within the content of another. */
    private static void inCommon() {
        Bytes.Item in = new Bytes.Item("i", 0, false, Due.text("in"), 31);
        Bytes.Item out = new Bytes.Item("o", 0, false, new Bytes().local(in).all(), 0);
        byte[] outFirst = new Bytes().local(out).directory("", out, in).all();
        byte[] inFirst = new Bytes().local(out).directory("", in, out).all();
        checks("within the one before", 104, outFirst);
        checks("round the one before", 104, inFirst);
        Zip x = Due.lying(outFirst);
        due.answers("the first may be loaded", 33, () -> x.load(Due.name("o")));
        due.throwsIt("the second not", ArithmeticException.class, () -> x.load(Due.name("i")));
        x.poke(0, 0);
        due.same("the first is wrong by 3", x.check(), 3);
        due.answers("then the second may be loaded", 2, () -> x.load(Due.name("i")));
        x.poke(0, 0x50);
        int part = outFirst.length - 22 - 2 * 47;
        x.poke(part + 16, outFirst[part + 16] & 255 ^ 1);
        x.poke(14, outFirst[14] & 255 ^ 1);
        due.same("the first is wrong by 8", x.check(), 8);
        due.throwsIt("then the second may not", ArithmeticException.class, () -> x.load(Due.name("i")));
        checks("the same local part twice is of one name", 103,
            new Bytes().local(item("a", 0)).directory("", item("a", 0), item("b", 0)));
        // The last byte of the one is the first of the other.
        Bytes.Item first = new Bytes.Item("f", 0, false, Due.text("...P"), 0);
        Bytes.Item next = new Bytes.Item("n", 0, false, Due.text("x"), 34);
        byte[] rest = Arrays.copyOfRange(new Bytes().local(next).all(), 1, 32);
        checks("one byte in common", 104, new Bytes().local(first).raw(rest).directory("", first, next));
        checks("one byte in common, the other way", 104, new Bytes().local(first).raw(rest).directory("", next, first));
        Bytes.Item apart = new Bytes.Item("n", 0, false, Due.text("x"), 35);
        checks("side by side", 0, new Bytes().local(first).local(apart).directory("", first, apart));
        checks("side by side, the other way", 0, new Bytes().local(first).local(apart).directory("", apart, first));
        Bytes.Item later = new Bytes.Item("l", 0, true, Due.text("x"), 0);
        Bytes.Item after = new Bytes.Item("n", 0, false, Due.text("x"), 32);
        byte[] cut = Arrays.copyOf(new Bytes().local(later).all(), 32);
        checks("what should stand behind, in common with the next", 5,
            new Bytes().raw(cut).local(after).directory("", later, after));
        checks("what should stand behind, in common with the one before", 104,
            new Bytes().raw(cut).local(after).directory("", after, later));
        Zip y = Due.lying(new Bytes().raw(cut).local(after).directory("", later, after).all());
        due.throwsIt("in common with one that is wrong by 5", ArithmeticException.class, () -> y.load(Due.name("n")));
        Bytes.Item far = new Bytes.Item("f", 0, false, new byte[60], 0);
        far.content = new byte[0];
        Bytes.Item small = new Bytes.Item("s", 0, false, Due.text("x"), 31);
        byte[] tooFar = new Bytes().local(far).local(small).directory("", far, small).all();
        checks("one that goes beyond", 4, tooFar);
        Zip z = Due.lying(tooFar);
        due.throwsIt("in common with one that goes beyond", ArithmeticException.class, () -> z.load(Due.name("s")));
    }

    private static void behind() {
        byte[] all = Bytes.archive("", new Bytes.Item("a", 0, true, TEXT, 0));
        for (int i = 0; i < 16; i++) {
            checks("behind, byte " + i, 5, poked(all, 51 + i, all[51 + i] ^ 1));
        }
        byte[] packed = Bytes.archive("", new Bytes.Item("a", 8, true, TEXT, 0));
        checks("packed", 0, packed);
        int place = 31 + new Bytes.Item("a", 8, true, TEXT, 0).content.length;
        for (int i = 0; i < 16; i++) {
            checks("behind packed bytes, byte " + i, 5, poked(packed, place + i, packed[place + i] ^ 128));
        }
        checks("the wide ones are told there as they are", 5, one(new Bytes.Item("a", 0, true, TEXT, 0), e -> {
            e.extras = Bytes.wides(e.size, e.packedSize);
            e.size = -1;
            e.packedSize = -1;
            e.behindSize = -1;
            e.behindPackedSize = -1;
        }));
    }

    private static Consumer<Bytes.Item> sizes(long size, long packedSize) {
        return e -> {
            e.size = size;
            e.localSize = size;
            e.packedSize = packedSize;
            e.localPackedSize = packedSize;
        };
    }

    private static void packedOnes() {
        checks("stored, a packed size that is less", 6, one(sizes(TEXT.length, TEXT.length - 1)));
        checks("stored, a size that is less", 6, one(sizes(TEXT.length - 1, TEXT.length)));
        Bytes.Item e = new Bytes.Item("a", 8, false, TEXT, 0);
        int n = (int) e.packedSize;
        checks("packed, a byte is behind", 6, one(new Bytes.Item("a", 8, false, TEXT, 0), x -> {
            x.content = Arrays.copyOf(x.content, n + 1);
            sizes(TEXT.length, n + 1).accept(x);
        }));
        checks("packed, a byte lacks", 6, one(new Bytes.Item("a", 8, false, TEXT, 0), sizes(TEXT.length, n - 1)));
        checks("packed, kind 3", 6, one(new Bytes.Item("a", 8, false, TEXT, 0), x -> x.content[0] |= 6));
        checks("packed, nothing", 6, one(new Bytes.Item("a", 8, false, new byte[0], 0), x -> {
            x.content = new byte[0];
            sizes(0, 0).accept(x);
        }));
        checks("packed, above 200", 6, one(new Bytes.Item("a", 8, false, new byte[200], 0), x -> {
            x.content = new Bits().fixed(true).symbol(0).symbol(285).distance(0).symbol(256).bytes();
            sizes(200, x.content.length).accept(x);
        }));
        checks("packed in another way", 0, one(new Bytes.Item("a", 8, false, TEXT, 0), x -> {
            x.content = new Bits().plain(false, Arrays.copyOf(TEXT, 5))
                .plain(true, Arrays.copyOfRange(TEXT, 5, TEXT.length)).bytes();
            sizes(TEXT.length, x.content.length).accept(x);
        }));
        checks("packed bytes do not go on behind their end", 6,
            new Bytes().local(cutItem(n)).raw(Arrays.copyOfRange(e.content, n - 1, n)).directory("", cutItem(n)));
    }

    /** Packed bytes of which the last ones stand behind the entry. */
    private static void cutPlain() {
        byte[] plain = new Bits().plain(true, TEXT).bytes();
        for (int n = 0; n < plain.length; n++) {
            Bytes.Item e = new Bytes.Item("a", 8, false, TEXT, 0);
            e.content = Arrays.copyOf(plain, n);
            sizes(TEXT.length, n).accept(e);
            byte[] rest = Arrays.copyOfRange(plain, n, plain.length);
            checks("plain, " + n + " bytes of it", 6, new Bytes().local(e).raw(rest).directory("", e));
        }
    }

    private static Bytes.Item cutItem(int n) {
        Bytes.Item e = new Bytes.Item("a", 8, false, TEXT, 0);
        e.content = Arrays.copyOf(e.content, n - 1);
        sizes(TEXT.length, n - 1).accept(e);
        return e;
    }

    private static void sizesAndSums() {
        Bytes.Item e = new Bytes.Item("a", 8, false, TEXT, 0);
        checks("packed, another size", 7, one(e, sizes(TEXT.length - 1, e.packedSize)));
        checks("packed, size 0", 7, one(e, sizes(0, e.packedSize)));
        checks("stored, another CRC", 8, one(x -> {
            x.crc ^= 1;
            x.localCrc ^= 1;
        }));
        checks("packed, another CRC", 8, one(new Bytes.Item("a", 8, false, TEXT, 0), x -> {
            x.crc ^= 1L << 31;
            x.localCrc ^= 1L << 31;
        }));
        checks("another content", 8, one(x -> x.content = Due.text("Some text, some text")));
        checks("packed with another CRC behind", 8, one(new Bytes.Item("a", 8, true, TEXT, 0), x -> {
            x.crc ^= 4;
            x.behindCrc ^= 4;
        }));
        checks("the last byte counts", 8, one(x -> x.content = Due.text("some text, some tex_")));
    }

    private static void whatIsFirst() {
        Bytes.Item[] all = new Bytes.Item[8];
        for (int i = 0; i < 8; i++) {
            all[i] = item("" + i, 51 * i);
        }
        byte[] right = Bytes.archive("", all);
        checks("eight", 0, right);
        for (int i = 0; i < 8; i++) {
            checks("entry " + i + " by 3", 100 * i + 3, poked(right, 51 * i, 0));
            checks("entry " + i + " by 8", 100 * i + 8, poked(right, 51 * i + 50, 0));
        }
        checks("the first entry is before the first number", 8, poked(right, 50, 0, 51, 0));
        checks("3 is before 8", 203, poked(right, 102, 0, 102 + 50, 0));
        checks("2 is before 3", 2, poked(right, 0, 0, 408, 0));
        checks("5 is before 6", 5, one(new Bytes.Item("a", 8, true, TEXT, 0), e -> {
            e.behindCrc ^= 1;
            e.content[0] |= 6;
        }));
        checks("7 is before 8", 7, one(new Bytes.Item("a", 8, false, TEXT, 0), e -> {
            e.crc ^= 1;
            e.localCrc ^= 1;
            e.size--;
            e.localSize--;
        }));
        Zip x = Due.lying(right);
        x.fill(1, 7);
        due.same("check", x.check(), 0);
        due.same("check leaves the buffer", x.held(), 7);
        due.sameBytes("check leaves the file", Due.file(x), right);
        // By the directory, not by where they lie.
        checks("the directory's order", 103, poked(Bytes.archive("", all[0], all[1], all[2]), 51, 0));
        checks("the directory's order", 3, poked(new Bytes().local(all[0]).local(all[1]).directory("", all[1], all[0])
            .all(), 51, 0));
    }
}
