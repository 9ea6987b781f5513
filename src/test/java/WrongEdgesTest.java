import java.nio.charset.StandardCharsets;
import java.util.Arrays;
import java.util.function.Consumer;

/** The boundary cases of what is wrong of an archive, and of promise 17, sentence by sentence. */
public final class WrongEdgesTest {
    private static final Due due = new Due();
    private static final byte[] TEXT = Due.text("words, words");
    private static final int PART = 31 + TEXT.length;
    private static final long ALMOST_WIDE = 0xfffffffeL;

    public static void main(String[] args) {
        noEnd();
        theLastPlace();
        remarkToTheEnd();
        wideOffsetOfTheEnd();
        whatStandsBeforeTheEnd();
        theTwoCounts();
        atMostEight();
        whereTheDirectoryLies();
        wideDirectoryLies();
        partsFillIt();
        partsAsSaid();
        namesOfParts();
        extrasAreRecords();
        numbersOfEightBytes();
        theFirstRecordCounts();
        theOrderOfWideNumbers();
        sizeAbove200();
        packedSizeAboveTheOffset();
        offsetAboveTheOffset();
        aNameTwice();
        numbersWithoutAMeaning();
        localPartWhole();
        localPartAsSaid();
        localNumbers();
        localNumbersWithFlags8();
        localNumbersWide();
        localExtras();
        contentGoesBeyond();
        bytesInCommon();
        inCommonWithAWrongOne();
        whatStandsBehind();
        packedSizeOfAStoredOne();
        packedBytesOfAnEntry();
        theSize();
        theChecksum();
        whatIsFirst();
        checkChangesNothing();
        due.finish();
    }

    // ---- helpers

    private static void checks(String what, int want, byte[] file) {
        Zip x = Due.lying(file);
        due.answers(what, want, x::check);
        // Below 3 the archive is none; from 3 on it is one, and an entry is wrong.
        if (want == 1 || want == 2) {
            due.throwsIt(what + ", count", UnsupportedOperationException.class, x::count);
        } else {
            due.is(what + ", count", x.count() >= 0);
        }
        if (want >= 3) {
            int name = x.about(want / 100, 0);
            due.throwsIt(what + ", load", ArithmeticException.class, () -> x.load(name));
        }
        for (int k = 0; want == 0 && k < x.count(); k++) {
            int name = x.about(k, 0);
            int size = x.about(k, 5);
            due.answers(what + ", load " + k, size, () -> x.load(name));
        }
    }

    private static void checks(String what, int want, Bytes file) {
        checks(what, want, file.all());
    }

    private static byte[] poked(byte[] file, int... pairs) {
        byte[] other = file.clone();
        for (int i = 0; i < pairs.length; i += 2) {
            other[pairs[i]] = (byte) pairs[i + 1];
        }
        return other;
    }

    private static Bytes.Item stored(String name, int offset) {
        return new Bytes.Item(name, 0, false, TEXT, offset);
    }

    private static Bytes.Item packed(String name, int offset) {
        return new Bytes.Item(name, 8, false, TEXT, offset);
    }

    private static Bytes.Item later(String name, int offset) {
        return new Bytes.Item(name, 0, true, TEXT, offset);
    }

    private static byte[] one(Consumer<Bytes.Item> turn) {
        return one(stored("a", 0), turn);
    }

    private static byte[] one(Bytes.Item e, Consumer<Bytes.Item> turn) {
        turn.accept(e);
        return Bytes.archive("", e);
    }

    private static String latin(byte[] bytes) {
        return new String(bytes, StandardCharsets.ISO_8859_1);
    }

    // ---- 1

    private static void noEnd() {
        due.sentence("1, when no end is there");
        byte[] end = new Bytes().end(0, 0, 0, "").all();
        checks("22 bytes", 0, end);
        for (int n = 0; n < 22; n++) {
            checks(n + " bytes", 1, Arrays.copyOf(end, n));
        }
        for (int i = 0; i < 4; i++) {
            checks("byte " + i + " of the mark, one more", 1, poked(end, i, end[i] + 1));
            checks("byte " + i + " of the mark, one less", 1, poked(end, i, end[i] - 1));
        }
        checks("the mark highest byte first", 1, poked(end, 0, 6, 1, 5, 2, 0x4b, 3, 0x50));
        checks("1600 bytes, none is an end", 1, new byte[1600]);
        checks("1600 bytes and an end", 0, new Bytes().raw(new byte[1578]).end(0, 0, 1578, ""));
        checks("1600 bytes by a remark", 0, new Bytes().end(0, 0, 0, ".".repeat(1578)));
        checks("1600 bytes, 21 of an end", 1, Arrays.copyOf(new Bytes().raw(new byte[1579]).end(0, 0, 1579, "").all(), 1600));
    }

    private static void theLastPlace() {
        due.sentence("it begins at the last place at which its first four bytes stand and its remark goes just to the end");
        String inner = latin(new Bytes().end(0, 0, 22, "").all());
        checks("an end in the remark of one that is wrong", 0, new Bytes().end(9, 9, 9, inner));
        checks("an end in the remark is the one, and is wrong", 2, new Bytes().end(0, 0, 0, inner.replace((char) 22, 'x')));
        String innerRemark = latin(new Bytes().end(0, 0, 22, "yz").all());
        checks("it has a remark itself", 0, new Bytes().end(9, 9, 9, innerRemark));
        checks("its remark is one too short", 0, new Bytes().end(0, 0, 0, innerRemark + "."));
        checks("its remark is one too long", 0, new Bytes().end(0, 0, 0, innerRemark.substring(0, 23)));
        for (int n = 4; n < 22; n++) {
            checks("so many bytes of an end in the remark: " + n, 0, new Bytes().end(0, 0, 0, inner.substring(0, n)));
        }
        Bytes.Item holds = new Bytes.Item("a", 0, false, Due.text(inner), 0);
        checks("an end in a content", 0, Bytes.archive("", holds));
        checks("three ends", 0, new Bytes().end(1, 1, 1, latin(new Bytes().end(2, 2, 2,
            latin(new Bytes().end(0, 0, 44, "").all())).all())));
    }

    private static void remarkToTheEnd() {
        due.sentence("2: how many bytes of a remark follow; these");
        for (int n : new int[] {0, 1, 2, 255, 256, 257, 1577, 1578}) {
            String remark = ".".repeat(n);
            byte[] right = new Bytes().end(0, 0, 0, remark).all();
            checks("a remark of " + n, 0, right);
            checks("one byte lacks", 1, Arrays.copyOf(right, right.length - 1));
            if (n < 1578) {
                checks("one byte more", 1, Arrays.copyOf(right, right.length + 1));
            }
        }
        byte[] end = new Bytes().end(0, 0, 0, "").all();
        checks("a remark of 65535", 1, poked(end, 20, 255, 21, 255));
        checks("a remark of 256, none is there", 1, poked(end, 21, 1));
    }

    // ---- 2: the end

    private static void wideOffsetOfTheEnd() {
        due.sentence("If that offset is wide, there stand before it, 20 bytes ... These numbers count then");
        checks("wide", 0, new Bytes().wideBefore(0, 0, 0).end(65535, -1, -1, ""));
        checks("the end's other numbers do not count", 0, new Bytes().wideBefore(0, 0, 0).end(3, 5, -1, ""));
        byte[] end = new Bytes().wideBefore(0, 0, 0).end(0, 0, -1, "").all();
        checks("the end's counts differ", 0, poked(end, 76 + 8, 1, 76 + 10, 2));
        for (int i = 16; i < 20; i++) {
            checks("one bit of it is 0, byte " + i, 2, poked(end, 76 + i, 254));
            checks("its highest bit is 0, byte " + i, 2, poked(end, 76 + i, 127));
        }
        checks("counts and size are wide, the offset is not", 2, new Bytes().wideBefore(0, 0, 0).end(65535, -1, 76, ""));
        checks("the offset is not wide, what stands before does not count", 0,
            new Bytes().wideBefore(5, 6, 7).end(0, 0, 76, ""));
    }

    private static void whatStandsBeforeTheEnd() {
        due.sentence("2: what should stand before it does not");
        byte[] end = new Bytes().wideBefore(0, 0, 0).end(65535, -1, -1, "").all();
        checks("76 bytes", 0, end);
        for (int n = 0; n < 76; n++) {
            checks(n + " bytes", 2, Arrays.copyOfRange(end, 76 - n, 98));
        }
        for (int i = 0; i < 12; i++) {
            checks("0x06064b50 and 44, byte " + i, 2, poked(end, i, end[i] + 1));
            checks("0x06064b50 and 44, byte " + i, 2, poked(end, i, end[i] ^ 128));
        }
        for (int i = 56; i < 60; i++) {
            checks("0x07064b50, byte " + i, 2, poked(end, i, end[i] + 1));
        }
        for (int i = 64; i < 72; i++) {
            checks("the place, byte " + i, 2, poked(end, i, end[i] + 1));
            checks("the place, byte " + i, 2, poked(end, i, end[i] ^ 128));
        }
        byte[] behind = new Bytes().text("..").wideBefore(0, 0, 2).end(65535, -1, -1, "").all();
        checks("the place is 2", 0, behind);
        checks("the place is 1", 2, poked(behind, 2 + 64, 1));
        checks("the place is 3", 2, poked(behind, 2 + 64, 3));
        Bytes apart = new Bytes().n(0x06064b50, 4).n(44, 8).n(0, 12).n(0, 32).n(0, 1).n(0x07064b50, 4).n(0, 4).n(0, 8).n(0, 4);
        checks("at the place, but not directly before", 2, apart.end(65535, -1, -1, ""));
        checks("a remark is behind", 0, new Bytes().wideBefore(0, 0, 0).end(65535, -1, -1, "remark"));
    }

    private static Bytes counted(long one, long again, int parts) {
        Bytes b = new Bytes();
        for (int i = 0; i < parts; i++) {
            b.local(stored("" + i, PART * i));
        }
        int start = b.size();
        for (int i = 0; i < parts; i++) {
            b.part(stored("" + i, PART * i));
        }
        return b.n(0x06054b50, 4).n(0, 4).n(one, 2).n(again, 2).n(b.size() - start - 12, 4).n(start, 4).n(0, 2);
    }

    private static Bytes countedWide(long one, long again, int parts) {
        Bytes b = new Bytes();
        for (int i = 0; i < parts; i++) {
            b.local(stored("" + i, PART * i));
        }
        int start = b.size();
        for (int i = 0; i < parts; i++) {
            b.part(stored("" + i, PART * i));
        }
        int size = b.size() - start;
        int place = b.size();
        return b.n(0x06064b50, 4).n(44, 8).n(0, 12).n(one, 8).n(again, 8).n(size, 8).n(start, 8).n(0x07064b50, 4).n(0, 4)
            .n(place, 8).n(0, 4).end(65535, -1, -1, "");
    }

    private static void theTwoCounts() {
        due.sentence("the two counts are not the same");
        for (int n : new int[] {0, 1, 2, 8}) {
            checks("the same: " + n, 0, counted(n, n, n));
            checks("the first is one more", 2, counted(n + 1, n, n));
            checks("the second is one more", 2, counted(n, n + 1, n));
            checks("the first is 256 more", 2, counted(n + 256, n, n));
            checks("the second is 256 more", 2, counted(n, n + 256, n));
            checks("wide, the same: " + n, 0, countedWide(n, n, n));
            checks("wide, the first is one more", 2, countedWide(n + 1, n, n));
            checks("wide, the second is one more", 2, countedWide(n, n + 1, n));
            for (int bit : new int[] {8, 31, 32, 63}) {
                checks("wide, the first has bit " + bit, 2, countedWide(n | 1L << bit, n, n));
                checks("wide, the second has bit " + bit, 2, countedWide(n, n | 1L << bit, n));
                checks("wide, both have bit " + bit, 2, countedWide(n | 1L << bit, n | 1L << bit, n));
            }
        }
    }

    private static void atMostEight() {
        due.sentence("the two counts are ... above 8");
        checks("8", 0, counted(8, 8, 8));
        checks("9", 2, counted(9, 9, 9));
        checks("9 of 8", 2, counted(9, 9, 8));
        checks("wide, 8", 0, countedWide(8, 8, 8));
        checks("wide, 9", 2, countedWide(9, 9, 9));
        checks("wide, below 0", 2, countedWide(-1, -1, 0));
        checks("65535", 2, counted(65535, 65535, 0));
        checks("256", 2, counted(256, 256, 0));
    }

    private static void whereTheDirectoryLies() {
        due.sentence("the directory does not begin in the file and end where the end begins");
        checks("it is empty, and begins where the end does", 0, new Bytes().text("abc").end(0, 0, 3, ""));
        checks("one before, and empty", 2, new Bytes().text("abc").end(0, 0, 2, ""));
        checks("one behind, and empty", 2, new Bytes().text("abc").end(0, 0, 4, ""));
        checks("one before, with one byte that is no part", 2, new Bytes().text("abc").end(0, 1, 2, ""));
        checks("one behind, with one byte less than none", 2, new Bytes().text("abc").end(0, -1, 4, ""));
        checks("behind the file", 2, new Bytes().text("abc").end(0, 0, 26, ""));
        checks("far behind the file", 2, new Bytes().text("abc").end(0, 5, ALMOST_WIDE, ""));
        checks("far behind, by 2 to the 31", 2, new Bytes().text("abc").end(0, 0, 0x80000003L, ""));
        checks("a size of 2 to the 31", 2, new Bytes().text("abc").end(0, 0x80000000L, 3, ""));
        byte[] right = one(e -> { });
        int end = right.length - 22;
        checks("a part", 0, right);
        checks("the size is one less", 2, poked(right, end + 12, 46));
        checks("the size is one more", 2, poked(right, end + 12, 48));
        checks("the offset is one less", 2, poked(right, end + 16, PART - 1));
        checks("the offset is one more", 2, poked(right, end + 16, PART + 1));
        checks("the offset is one less, the size one more", 2, poked(right, end + 16, PART - 1, end + 12, 48));
        checks("the offset is one more, the size one less", 2, poked(right, end + 16, PART + 1, end + 12, 46));
        Bytes.Item a = stored("a", 0);
        checks("a byte between directory and end", 2, new Bytes().local(a).part(a).text(".").end(1, 47, PART, ""));
    }

    private static Bytes wideLying(long size, long offset) {
        return new Bytes().text("abc").wideBefore(0, size, offset).end(65535, -1, -1, "");
    }

    private static void wideDirectoryLies() {
        due.sentence("(or those 56 bytes) begins");
        checks("it begins where those do", 0, wideLying(0, 3));
        checks("one before", 2, wideLying(0, 2));
        checks("one behind", 2, wideLying(0, 4));
        checks("one before, of one byte", 2, wideLying(1, 2));
        checks("one behind, going round", 2, wideLying(-1, 4));
        checks("up to the end, not to those", 2, wideLying(76, 3));
        checks("where the end begins", 2, wideLying(0, 79));
        for (int bit : new int[] {31, 32, 33, 62, 63}) {
            checks("the offset has bit " + bit, 2, wideLying(0, 3 | 1L << bit));
            checks("the size has bit " + bit, 2, wideLying(1L << bit, 3));
            checks("both have it, going round", 2, wideLying(-(1L << bit), 3 + (1L << bit)));
        }
    }

    // ---- 2: the parts

    private static void partsFillIt() {
        due.sentence("its parts, so many, do not fill it just");
        for (int n = 0; n <= 8; n++) {
            checks(n + " of " + n, 0, counted(n, n, n));
            if (n < 8) {
                checks(n + 1 + " of " + n, 2, counted(n + 1, n + 1, n));
            }
            if (n > 0) {
                checks(n - 1 + " of " + n, 2, counted(n - 1, n - 1, n));
            }
        }
        Bytes.Item a = stored("a", 0);
        for (int more : new int[] {1, 45, 46, 47}) {
            checks("bytes behind them: " + more, 2, new Bytes().local(a).part(a).raw(new byte[more])
                .end(1, 47 + more, PART, ""));
        }
        byte[] part = new Bytes().part(a).all();
        for (int n = 0; n < 47; n++) {
            checks("so many bytes of a part: " + n, 2, new Bytes().local(a).raw(Arrays.copyOf(part, n)).end(1, n, PART, ""));
        }
        checks("a remark fills it", 0, one(e -> e.remark = "x".repeat(300)));
        byte[] right = one(e -> e.remark = "xy");
        checks("a remark of one less", 2, poked(right, PART + 32, 1));
        checks("a remark of one more", 2, poked(right, PART + 32, 3));
        checks("a remark of 256 more", 2, poked(right, PART + 33, 1));
        checks("a name of 256 more", 2, poked(right, PART + 29, 1));
        checks("extras of 256 more", 2, poked(right, PART + 31, 1));
        checks("a name of one more", 2, poked(right, PART + 28, 2, PART + 32, 2));
        checks("extras of one more", 2, poked(right, PART + 30, 1));
        checks("all lengths are 65535", 2, poked(right, PART + 28, 255, PART + 29, 255, PART + 30, 255, PART + 31, 255,
            PART + 32, 255, PART + 33, 255));
    }

    private static void partsAsSaid() {
        due.sentence("one is not as said: 4: 0x02014b50; FLAGS 0 or 8, a METHOD (0 stored, 8 packed)");
        byte[] right = Bytes.archive("", stored("a", 0), stored("b", PART));
        int part = 2 * PART;
        for (int k = 0; k < 2; k++) {
            int at = part + 47 * k;
            for (int i = 0; i < 4; i++) {
                checks("mark of part " + k + ", byte " + i, 2, poked(right, at + i, right[at + i] ^ 1));
            }
            for (int i = 8; i <= 11; i++) {
                for (int v : new int[] {1, 2, 4, 7, 9, 16, 128, 255}) {
                    checks("flags and method of part " + k + ", byte " + i + ", " + v, 2, poked(right, at + i, v));
                }
            }
            checks("flags 8 << 8", 2, poked(right, at + 9, 8));
            checks("method 8 << 8", 2, poked(right, at + 11, 8));
            checks("flags 8 in part " + k + " alone", 100 * k + 3, poked(right, at + 8, 8));
            checks("method 8 in part " + k + " alone", 100 * k + 3, poked(right, at + 10, 8));
        }
    }

    private static void namesOfParts() {
        due.sentence("a NAME (1 .. 3 bytes 33 .. 126)");
        for (String name : new String[] {"!", "~", "a!", "!a", "~~", "!!!", "~~~", "a~!"}) {
            checks("name " + name, 0, one(e -> e.name = name));
        }
        checks("no bytes", 2, one(e -> e.name = ""));
        checks("4 bytes", 2, one(e -> e.name = "abcd"));
        checks("257 bytes", 2, one(e -> e.name = "a".repeat(257)));
        for (char bad : new char[] {0, 1, 32, 127, 128, 161, 255}) {
            for (String name : new String[] {"" + bad, bad + "a", "a" + bad, bad + "aa", "a" + bad + "a", "aa" + bad}) {
                checks("a byte " + (int) bad + " in a name of " + name.length(), 2, one(e -> e.name = name));
            }
        }
    }

    private static void extrasAreRecords() {
        due.sentence("its extras are no whole records");
        for (int data : new int[] {0, 1, 2, 5, 255, 256}) {
            byte[] record = Bytes.record(7, Due.times(255, data));
            checks("a record of " + data, 0, one(e -> e.extras = record));
            checks("two of " + data, 0, one(e -> e.extras = new Bytes().raw(record).raw(record).all()));
            checks("one byte lacks", 2, one(e -> e.extras = Arrays.copyOf(record, record.length - 1)));
            checks("one byte lacks, and stands in the remark", 2, one(e -> {
                e.extras = Arrays.copyOf(record, record.length - 1);
                e.remark = ".";
            }));
            for (int more = 1; more < 4; more++) {
                int n = more;
                checks("bytes more: " + n, 2, one(e -> e.extras = Arrays.copyOf(record, record.length + n)));
            }
            checks("a record of none more", 0, one(e -> e.extras = Arrays.copyOf(record, record.length + 4)));
        }
        checks("a record of 65535", 2, one(e -> e.extras = new byte[] {7, 0, -1, -1}));
        checks("a record of kind 1 that no number needs, too short", 0, one(e -> e.extras = Bytes.record(1, new byte[7])));
        checks("a record of kind 1 that no number needs, empty", 0, one(e -> e.extras = Bytes.record(1, new byte[0])));
    }

    private static void numbersOfEightBytes() {
        due.sentence("a number of 8 bytes lacks");
        checks("there", 0, one(e -> {
            e.extras = Bytes.wides(e.size);
            e.size = -1;
        }));
        for (int n = 0; n < 8; n++) {
            int some = n;
            checks("so many bytes of it: " + n, 2, one(e -> {
                e.extras = Bytes.record(1, Arrays.copyOf(new Bytes().n(e.size, 8).all(), some));
                e.size = -1;
            }));
            checks("so many bytes of it, and a record behind: " + n, 2, one(e -> {
                e.extras = new Bytes().raw(Bytes.record(1, Arrays.copyOf(new Bytes().n(e.size, 8).all(), some)))
                    .raw(Bytes.record(0, new byte[0])).all();
                e.size = -1;
            }));
            checks("the third number has so many bytes: " + n, 2, one(e -> {
                e.extras = Bytes.record(1, Arrays.copyOf(new Bytes().n(e.size, 8).n(e.packedSize, 8).all(), 16 + some));
                e.size = -1;
                e.packedSize = -1;
                e.offset = -1;
            }));
        }
        checks("no extras", 2, one(e -> e.size = -1));
        checks("no extras", 2, one(e -> e.packedSize = -1));
        checks("no extras", 2, one(e -> e.offset = -1));
        checks("a record goes on behind it", 0, one(e -> {
            e.extras = Bytes.record(1, new Bytes().n(e.size, 8).n(-1, 3).all());
            e.size = -1;
        }));
        due.sentence("A number is WIDE when all its bits are 1");
        checks("the lowest bit of a size is 0", 2, one(e -> {
            e.extras = Bytes.wides(e.size);
            e.size = ALMOST_WIDE;
        }));
        checks("the highest bit of an offset is 0", 2, one(e -> {
            e.extras = Bytes.wides(e.offset);
            e.offset = 0x7fffffff;
        }));
        checks("a CRC that is wide is told by nobody", 8, one(e -> {
            e.crc = -1;
            e.localCrc = -1;
        }));
        checks("one of 8 bytes that is wide is not told again", 2, one(e -> {
            e.extras = Bytes.wides(-1, e.size);
            e.size = -1;
        }));
        checks("one of 8 bytes that is wide in its lower half", 2, one(e -> {
            e.extras = Bytes.wides(0xffffffffL, e.size);
            e.size = -1;
        }));
    }

    private static void theFirstRecordCounts() {
        due.sentence("there is a record of kind 1 (the first one counts)");
        checks("it is the second record", 0, one(e -> {
            e.extras = new Bytes().raw(Bytes.record(2, new byte[8])).raw(Bytes.wides(e.size)).all();
            e.size = -1;
        }));
        checks("two of kind 1, the first is right", 0, one(e -> {
            e.extras = new Bytes().raw(Bytes.wides(e.size)).raw(Bytes.wides(201)).all();
            e.size = -1;
        }));
        checks("two of kind 1, the second is right", 2, one(e -> {
            e.extras = new Bytes().raw(Bytes.wides(201)).raw(Bytes.wides(e.size)).all();
            e.size = -1;
        }));
        checks("two of kind 1, the first is too short", 2, one(e -> {
            e.extras = new Bytes().raw(Bytes.record(1, new byte[7])).raw(Bytes.wides(e.size)).all();
            e.size = -1;
        }));
        checks("two of kind 1, one number in each", 2, one(e -> {
            e.extras = new Bytes().raw(Bytes.wides(e.size)).raw(Bytes.wides(e.packedSize)).all();
            e.size = -1;
            e.packedSize = -1;
        }));
        checks("none is there, but in the part before", 2, Bytes.archive("", wideWithMore(), needing("b", PART)));
        checks("none is there, but in the part behind", 2, Bytes.archive("", needing("b", 0), stored("c", PART).widened()));
        for (int kind : new int[] {0, 2, 256, 257, 65535}) {
            checks("of kind " + kind, 2, one(e -> {
                e.extras = Bytes.record(kind, new Bytes().n(e.size, 8).all());
                e.size = -1;
            }));
        }
    }

    /** An entry whose size is wide, and told by a record that goes on with numbers that would do for others. */
    private static Bytes.Item wideWithMore() {
        Bytes.Item e = stored("a", 0);
        e.extras = Bytes.wides(e.size, TEXT.length, TEXT.length, TEXT.length);
        e.size = -1;
        return e;
    }

    /** An entry whose size is wide and told by nobody. */
    private static Bytes.Item needing(String name, int offset) {
        Bytes.Item e = stored(name, offset);
        e.size = -1;
        return e;
    }

    private static void theOrderOfWideNumbers() {
        due.sentence("8: for each of them that is wide, in the order size, packed size, offset");
        int n = (int) packed("b", 0).packedSize;
        for (int which = 0; which < 8; which++) {
            Bytes.Item a = stored("a", 0);
            Bytes.Item b = packed("b", PART);
            Bytes wides = new Bytes();
            if ((which & 1) != 0) {
                wides.n(b.size, 8);
                b.size = -1;
            }
            if ((which & 2) != 0) {
                wides.n(b.packedSize, 8);
                b.packedSize = -1;
            }
            if ((which & 4) != 0) {
                wides.n(b.offset, 8);
                b.offset = -1;
            }
            b.extras = Bytes.record(1, wides.all());
            byte[] file = Bytes.archive("", a, b);
            checks("wide numbers " + which, 0, file);
            Zip x = Due.lying(file);
            due.answers("size", TEXT.length, () -> x.about(1, 5));
            due.answers("packed size", n, () -> x.about(1, 4));
            due.answers("offset", PART, () -> x.about(1, 6));
        }
        checks("packed size before size", 3, one(packed("a", 0), e -> {
            e.extras = Bytes.wides(e.packedSize, e.size);
            e.size = -1;
            e.packedSize = -1;
        }));
    }

    private static void sizeAbove200() {
        due.sentence("a size is above 200");
        checks("200", 0, one(new Bytes.Item("a", 0, false, new byte[200], 0), e -> { }));
        checks("201", 2, one(new Bytes.Item("a", 0, false, new byte[201], 0), e -> { }));
        checks("200 of others", 3, one(e -> e.size = 200));
        for (long size : new long[] {201, 255, 256, 65536, 0x7fffffffL, 0x80000000L, ALMOST_WIDE}) {
            checks("a size of " + size, 2, one(e -> e.size = size));
        }
        for (long size : new long[] {201, 0xffffffffL, 0x100000000L, 1L << 32 | TEXT.length, Long.MAX_VALUE, Long.MIN_VALUE,
            Long.MIN_VALUE + TEXT.length, -1}) {
            checks("a wide size of " + size, 2, one(e -> {
                e.extras = Bytes.wides(size);
                e.size = -1;
            }));
        }
        checks("a wide size of 200", 0, one(new Bytes.Item("a", 0, false, new byte[200], 0), e -> {
            e.extras = Bytes.wides(200);
            e.size = -1;
        }));
    }

    private static void packedSizeAboveTheOffset() {
        due.sentence("a packed size ... above the directory's offset");
        checks("as far as it", 3, one(e -> e.packedSize = PART));
        checks("one above it", 2, one(e -> e.packedSize = PART + 1));
        for (long size : new long[] {0x7fffffffL, 0x80000000L, ALMOST_WIDE}) {
            checks("a packed size of " + size, 2, one(e -> e.packedSize = size));
        }
        checks("wide, as far as it", 3, one(e -> {
            e.extras = Bytes.wides(PART);
            e.packedSize = -1;
        }));
        for (long size : new long[] {PART + 1, 1L << 32 | TEXT.length, Long.MAX_VALUE, Long.MIN_VALUE, -1, -TEXT.length}) {
            checks("a wide packed size of " + size, 2, one(e -> {
                e.extras = Bytes.wides(size);
                e.packedSize = -1;
            }));
        }
        checks("none can be in an empty file", 2, new Bytes().part(stored("a", 0)).end(1, 47, 0, ""));
        Bytes.Item none = new Bytes.Item("a", 0, false, new byte[0], 0);
        checks("0 in an empty file", 3, new Bytes().part(none).end(1, 47, 0, ""));
    }

    private static void offsetAboveTheOffset() {
        due.sentence("a packed size, or offset, above the directory's offset");
        checks("as far as it", 3, one(e -> e.offset = PART));
        checks("one above it", 2, one(e -> e.offset = PART + 1));
        for (long offset : new long[] {0x7fffffffL, 0x80000000L, ALMOST_WIDE}) {
            checks("an offset of " + offset, 2, one(e -> e.offset = offset));
        }
        checks("wide, as far as it", 3, one(e -> {
            e.extras = Bytes.wides(PART);
            e.offset = -1;
        }));
        for (long offset : new long[] {PART + 1, 1L << 32, Long.MAX_VALUE, Long.MIN_VALUE, -1, -30}) {
            checks("a wide offset of " + offset, 2, one(e -> {
                e.extras = Bytes.wides(offset);
                e.offset = -1;
            }));
        }
    }

    private static void aNameTwice() {
        due.sentence("or a name is there twice");
        for (String[] names : new String[][] {{"a", "a"}, {"ab", "ab"}, {"abc", "abc"}}) {
            checks(names[0] + " twice", 2, Bytes.archive("", stored(names[0], 0),
                stored(names[1], 30 + names[0].length() + TEXT.length)));
        }
        for (String[] names : new String[][] {{"a", "b"}, {"a", "aa"}, {"ab", "ba"}, {"a", "A"}, {"aab", "abb"}}) {
            checks(names[0] + " and " + names[1], 0, Bytes.archive("", stored(names[0], 0),
                stored(names[1], 30 + names[0].length() + TEXT.length)));
        }
        Bytes.Item[] eight = new Bytes.Item[8];
        for (int i = 0; i < 8; i++) {
            eight[i] = stored("" + i, PART * i);
        }
        checks("eight names", 0, Bytes.archive("", eight));
        for (int i = 0; i < 7; i++) {
            eight[7] = stored("" + i, PART * 7);
            checks("the last as name " + i, 2, Bytes.archive("", eight));
        }
    }

    private static void numbersWithoutAMeaning() {
        due.sentence("(Numbers without a meaning here may be any.)");
        byte[] right = Bytes.archive("", later("a", 0));
        int part = PART + 16;
        int end = right.length - 22;
        for (int v : new int[] {1, 8, 127, 128, 255}) {
            for (int i : new int[] {4, 5, 10, 11, 12, 13}) {
                checks("of a local part, byte " + i, 0, poked(right, i, v));
            }
            for (int i : new int[] {4, 5, 6, 7, 12, 13, 14, 15, 34, 35, 36, 37, 38, 39, 40, 41}) {
                checks("of a part, byte " + i, 0, poked(right, part + i, v));
            }
            for (int i = 4; i < 8; i++) {
                checks("of the end, byte " + i, 0, poked(right, end + i, v));
            }
            byte[] wide = new Bytes().wideBefore(0, 0, 0).end(65535, -1, -1, "").all();
            for (int i : new int[] {12, 13, 14, 15, 16, 17, 18, 19, 20, 21, 22, 23, 60, 61, 62, 63, 72, 73, 74, 75}) {
                checks("of the 76 bytes, byte " + i, 0, poked(wide, i, v));
            }
        }
    }

    // ---- 3

    private static void localPartWhole() {
        due.sentence("3, when its local part up to the extras is not whole before the directory");
        byte[] nothing = Bytes.archive("", new Bytes.Item("a", 0, false, new byte[0], 0));
        checks("whole, just before the directory", 0, nothing);
        checks("extras of one, beyond it", 3, poked(nothing, 28, 1));
        checks("a name of one more, beyond it", 3, poked(nothing, 26, 2));
        Bytes.Item a = new Bytes.Item("a", 0, false, new byte[0], 0);
        byte[] local = new Bytes().local(a).all();
        for (int n = 0; n < 31; n++) {
            checks("so many bytes of it: " + n, 3, new Bytes().raw(Arrays.copyOf(local, n)).directory("", a));
        }
        checks("all bytes of it", 0, new Bytes().raw(local).directory("", a));
        // The directory goes on with just the bytes that lack.
        Bytes.Item withExtras = new Bytes.Item("a", 0, false, new byte[0], 0);
        withExtras.localExtras = Bytes.record(9, Due.text("xy"));
        byte[] all = new Bytes().local(withExtras).all();
        checks("all of its extras", 0, new Bytes().raw(all).directory("", withExtras));
        checks("one byte less of them", 3, new Bytes().raw(Arrays.copyOf(all, all.length - 1)).directory("", withExtras));
        checks("lengths of 65535", 3, poked(nothing, 26, 255, 27, 255, 28, 255, 29, 255));
        byte[] behind = Bytes.archive("", stored("a", 0));
        int part = PART;
        for (int offset : new int[] {1, 12, 13, PART - 30, PART - 1, PART}) {
            checks("it begins at " + offset, 3, poked(behind, part + 42, offset));
        }
    }

    private static void localPartAsSaid() {
        due.sentence("3 ... or not as said (flags, method and name as in the directory)");
        byte[] right = Bytes.archive("", stored("abc", 0));
        checks("as said", 0, right);
        for (int i = 0; i < 4; i++) {
            checks("mark, byte " + i, 3, poked(right, i, right[i] + 1));
        }
        for (int i = 6; i < 10; i++) {
            for (int v : new int[] {1, 8, 128}) {
                checks("flags and method, byte " + i, 3, poked(right, i, v));
            }
        }
        for (int i = 30; i < 33; i++) {
            checks("the name, byte " + (i - 30), 3, poked(right, i, right[i] + 1));
        }
        checks("a name of one less", 3, poked(right, 26, 2));
        checks("a name of one more", 3, poked(right, 26, 4));
        checks("a name of none", 3, poked(right, 26, 0));
        checks("a name of 256 more", 3, poked(right, 27, 1));
        byte[] eight = Bytes.archive("", later("a", 0));
        checks("flags 0 there, 8 in the directory", 3, poked(eight, 6, 0));
        byte[] method = Bytes.archive("", packed("a", 0));
        checks("method 0 there, 8 in the directory", 3, poked(method, 8, 0));
        checks("a shorter name there", 3, new Bytes().local(stored("a", 0)).directory("", stored("aa", 0)));
        checks("a longer name there", 3, new Bytes().local(stored("aa", 0)).directory("", stored("a", 0)));
    }

    private static void localNumbers() {
        due.sentence("3 ... CRC and sizes too");
        byte[] right = Bytes.archive("", stored("a", 0));
        for (int i = 14; i < 26; i++) {
            checks("one more, byte " + i, 3, poked(right, i, right[i] + 1));
            checks("another highest bit, byte " + i, 3, poked(right, i, right[i] ^ 128));
        }
        Bytes.Item none = new Bytes.Item("a", 0, false, new byte[0], 0);
        checks("all of them are 0, in the directory too", 0, Bytes.archive("", none));
    }

    private static void localNumbersWithFlags8() {
        due.sentence("With flags 8 CRC and the two sizes are 0 here; 3 ... or 0");
        byte[] right = Bytes.archive("", later("a", 0));
        checks("all of them are 0", 0, right);
        for (int i = 14; i < 26; i++) {
            checks("byte " + i + " is not", 3, poked(right, i, 1));
            checks("byte " + i + " is not", 3, poked(right, i, 128));
        }
        Bytes.Item packed = new Bytes.Item("a", 8, true, TEXT, 0);
        checks("all of them are 0, packed", 0, Bytes.archive("", packed));
    }

    private static Consumer<Bytes.Item> wideLocal(byte[] extras) {
        return e -> {
            e.localExtras = extras;
            e.localSize = -1;
            e.localPackedSize = -1;
        };
    }

    private static void localNumbersWide() {
        due.sentence("3 ... or both sizes wide and told by the extras");
        int n = TEXT.length;
        int p = (int) packed("a", 0).packedSize;
        checks("both", 0, one(packed("a", 0), wideLocal(Bytes.wides(n, p))));
        checks("both, and a number more", 0, one(packed("a", 0), wideLocal(Bytes.wides(n, p, 77))));
        checks("both, the other way round", 3, one(packed("a", 0), wideLocal(Bytes.wides(p, n))));
        checks("the size is one more", 3, one(packed("a", 0), wideLocal(Bytes.wides(n + 1, p))));
        checks("the packed size is one more", 3, one(packed("a", 0), wideLocal(Bytes.wides(n, p + 1))));
        for (int bit : new int[] {8, 31, 32, 63}) {
            checks("the size has bit " + bit, 3, one(packed("a", 0), wideLocal(Bytes.wides(n | 1L << bit, p))));
            checks("the packed size has bit " + bit, 3, one(packed("a", 0), wideLocal(Bytes.wides(n, p | 1L << bit))));
        }
        for (int bytes = 0; bytes < 16; bytes++) {
            byte[] some = Arrays.copyOf(new Bytes().n(n, 8).n(p, 8).all(), bytes);
            checks("so many bytes of them: " + bytes, 3, one(packed("a", 0), wideLocal(Bytes.record(1, some))));
            checks("so many, and a record behind: " + bytes, 3, one(packed("a", 0), wideLocal(new Bytes()
                .raw(Bytes.record(1, some)).raw(Bytes.record(0, new byte[0])).all())));
        }
        checks("no extras", 3, one(packed("a", 0), wideLocal(new byte[0])));
        Bytes.Item inContent = new Bytes.Item("a", 0, false, new Bytes().n(16, 8).n(16, 8).all(), 0).widened();
        inContent.localExtras = new byte[0];
        checks("no extras, and the numbers stand in the content", 3, Bytes.archive("", inContent));
        inContent.localExtras = Bytes.record(9, new byte[2]);
        checks("no record of kind 1, and the numbers stand in the content", 3, Bytes.archive("", inContent));
        inContent.localExtras = Bytes.record(1, new byte[0]);
        checks("an empty record of kind 1, and the numbers stand in the content", 3, Bytes.archive("", inContent));
        checks("of kind 2", 3, one(packed("a", 0), wideLocal(Bytes.record(2, new Bytes().n(n, 8).n(p, 8).all()))));
        checks("the first of kind 1 counts", 3, one(packed("a", 0), wideLocal(new Bytes().raw(Bytes.wides(1, 1))
            .raw(Bytes.wides(n, p)).all())));
        checks("behind another one", 0, one(packed("a", 0), wideLocal(new Bytes().raw(Bytes.record(5, new byte[3]))
            .raw(Bytes.wides(n, p)).all())));
        checks("another CRC", 3, one(packed("a", 0), e -> {
            wideLocal(Bytes.wides(n, p)).accept(e);
            e.localCrc ^= 1;
        }));
        checks("the size alone is wide", 3, one(e -> {
            e.localExtras = Bytes.wides(n, n);
            e.localSize = -1;
        }));
        checks("the packed size alone is wide", 3, one(e -> {
            e.localExtras = Bytes.wides(n, n);
            e.localPackedSize = -1;
        }));
        checks("almost wide", 3, one(e -> {
            e.localExtras = Bytes.wides(n, n);
            e.localSize = ALMOST_WIDE;
            e.localPackedSize = ALMOST_WIDE;
        }));
        checks("wide there, and in the directory too", 0, one(packed("a", 0), Bytes.Item::widened));
        checks("a record that tells others, and nothing is wide", 0, one(e -> e.localExtras = Bytes.wides(1, 2)));
    }

    private static void localExtras() {
        due.sentence("EXTRAS are records, 2: kind; 2: how many bytes; these");
        for (int data : new int[] {0, 1, 4, 256}) {
            byte[] record = Bytes.record(3, Due.times(255, data));
            checks("a record of " + data, 0, one(e -> e.localExtras = record));
            checks("a record of " + data + " with flags 8", 0, one(later("a", 0), e -> e.localExtras = record));
            checks("one byte lacks", 3, one(e -> e.localExtras = Arrays.copyOf(record, record.length - 1)));
            checks("one byte more", 3, one(e -> e.localExtras = Arrays.copyOf(record, record.length + 1)));
            checks("one byte lacks, with flags 8", 3, one(later("a", 0),
                e -> e.localExtras = Arrays.copyOf(record, record.length - 1)));
        }
    }

    // ---- 4

    private static void contentGoesBeyond() {
        due.sentence("4: content, and what stands behind it, go beyond the directory's beginning");
        Bytes.Item a = stored("a", 0);
        byte[] local = new Bytes().local(a).all();
        checks("up to it", 0, new Bytes().raw(local).directory("", a));
        checks("one byte before it", 0, new Bytes().raw(local).text(".").directory("", a));
        for (int n = 1; n < TEXT.length; n++) {
            checks("beyond it by " + n, 4, new Bytes().raw(Arrays.copyOf(local, local.length - n)).directory("", a));
        }
        Bytes.Item b = later("b", 0);
        byte[] all = new Bytes().local(b).all();
        checks("with flags 8 up to it", 0, new Bytes().raw(all).directory("", b));
        for (int n = 1; n <= 16; n++) {
            checks("with flags 8 beyond it by " + n, 4, new Bytes().raw(Arrays.copyOf(all, all.length - n))
                .directory("", b));
        }
        // All that stands behind, but in the directory's place.
        Bytes.Item c = later("c", 0);
        Bytes.Item most = packed("a", 0);
        most.packedSize = new Bytes().local(most).size();
        most.localPackedSize = most.packedSize;
        checks("a packed size as the directory's offset", 4, Bytes.archive("", most));
        checks("the second of two", 104, new Bytes().local(a).raw(Arrays.copyOf(new Bytes().local(later("c", PART)).all(),
            PART + 15)).directory("", a, later("c", PART)));
        checks("the first of two", 4, new Bytes().local(a).raw(Arrays.copyOf(new Bytes().local(c).all(), PART + 15))
            .directory("", later("c", PART), a));
    }

    private static void bytesInCommon() {
        due.sentence("4: ... have bytes in common (local part and all) with an entry before");
        // The last byte of f is the first of n, "P".
        Bytes.Item f = new Bytes.Item("f", 0, false, Due.text("...P"), 0);
        Bytes.Item n = new Bytes.Item("n", 0, false, Due.text("x"), 34);
        byte[] rest = Arrays.copyOfRange(new Bytes().local(n).all(), 1, 32);
        checks("one byte, the second behind the first", 104, new Bytes().local(f).raw(rest).directory("", f, n));
        checks("one byte, the second before the first", 104, new Bytes().local(f).raw(rest).directory("", n, f));
        Bytes.Item next = new Bytes.Item("n", 0, false, Due.text("x"), 35);
        checks("none, the second behind the first", 0, new Bytes().local(f).local(next).directory("", f, next));
        checks("none, the second before the first", 0, new Bytes().local(f).local(next).directory("", next, f));
        // One in the content of the other.
        Bytes.Item in = new Bytes.Item("i", 0, false, Due.text("in"), 31);
        Bytes.Item out = new Bytes.Item("o", 0, false, new Bytes().local(in).all(), 0);
        checks("the second within the first", 104, new Bytes().local(out).directory("", out, in));
        checks("the first within the second", 104, new Bytes().local(out).directory("", in, out));
        // What stands behind counts: its last byte is the first of the next.
        Bytes.Item eight = new Bytes.Item("e", 0, true, TEXT, 0);
        byte[] all = new Bytes().local(eight).all();
        Bytes.Item last = new Bytes.Item("l", 0, false, Due.text("x"), all.length - 1);
        checks("the last byte behind the second", 104, new Bytes().raw(Arrays.copyOf(all, all.length - 1)).local(last)
            .directory("", last, eight));
        Bytes.Item apart = new Bytes.Item("l", 0, false, Due.text("x"), all.length);
        checks("no byte behind the second", 0, new Bytes().raw(all).local(apart).directory("", apart, eight));
        // With any of those before, not the last alone.
        Bytes.Item far = new Bytes.Item("z", 0, false, Due.text("z"), 33 + 31);
        checks("with the one before the one before", 204, new Bytes().local(out).local(far).directory("", out, far, in));
        checks("with the first of those behind it: none", 104, new Bytes().local(out).local(far)
            .directory("", out, in, far));
        checks("the extras count", 104, extrasInCommon());
    }

    /** The second entry begins in the extras of the first. */
    private static Bytes extrasInCommon() {
        Bytes.Item in = new Bytes.Item("i", 0, false, new byte[0], 35);
        Bytes.Item out = new Bytes.Item("o", 0, false, new byte[0], 0);
        out.localExtras = Bytes.record(5, new Bytes().local(in).all());
        return new Bytes().local(out).directory("", out, in);
    }

    private static void inCommonWithAWrongOne() {
        due.sentence("4: ... with an entry before whose own local part is not wrong by 3");
        Bytes.Item in = new Bytes.Item("i", 0, false, Due.text("in"), 31);
        Bytes.Item out = new Bytes.Item("o", 0, false, new Bytes().local(in).all(), 0);
        byte[] right = new Bytes().local(out).directory("", out, in).all();
        int inner = Due.name("i");
        Zip three = Due.lying(poked(right, 0, 0));
        due.same("wrong by 3", three.check(), 3);
        due.answers("in common with one that is wrong by 3", 2, () -> three.load(inner));
        Zip other = Due.lying(poked(right, 30, 'x'));
        due.same("wrong by 3", other.check(), 3);
        due.answers("in common with one that is wrong by 3, by its name", 2, () -> other.load(inner));
        Bytes.Item wrongSum = new Bytes.Item("o", 0, false, new Bytes().local(in).all(), 0);
        wrongSum.crc ^= 1;
        wrongSum.localCrc ^= 1;
        Zip eight = Due.lying(new Bytes().local(wrongSum).directory("", wrongSum, in).all());
        due.same("wrong by 8", eight.check(), 8);
        due.throwsIt("in common with one that is wrong by 8", ArithmeticException.class, () -> eight.load(inner));
        Bytes.Item stored = new Bytes.Item("o", 0, false, new Bytes().local(in).all(), 0);
        stored.size--;
        stored.localSize--;
        Zip six = Due.lying(new Bytes().local(stored).directory("", stored, in).all());
        due.same("wrong by 6", six.check(), 6);
        due.throwsIt("in common with one that is wrong by 6", ArithmeticException.class, () -> six.load(inner));
        Bytes.Item behind = new Bytes.Item("o", 0, true, new Bytes().local(in).all(), 0);
        behind.behindCrc ^= 1;
        Zip five = Due.lying(new Bytes().local(behind).directory("", behind, in).all());
        due.same("wrong by 5", five.check(), 5);
        due.throwsIt("in common with one that is wrong by 5", ArithmeticException.class, () -> five.load(inner));
        Bytes.Item beyond = new Bytes.Item("o", 0, false, new byte[50], 0);
        beyond.content = new Bytes().local(in).all();
        Zip four = Due.lying(new Bytes().local(beyond).directory("", beyond, in).all());
        due.same("wrong by 4", four.check(), 4);
        due.throwsIt("in common with one that is wrong by 4", ArithmeticException.class, () -> four.load(inner));
        // The one in the middle is wrong by 4 itself, and still is before the last.
        Bytes.Item deep = new Bytes.Item("d", 0, false, Due.text("d"), 62);
        Bytes.Item middle = new Bytes.Item("m", 0, false, new Bytes().local(deep).all(), 31);
        Bytes.Item outer = new Bytes.Item("o", 0, false, new Bytes().local(middle).all(), 0);
        byte[] nested = new Bytes().local(outer).directory("", outer, middle, deep).all();
        due.same("the middle", Due.lying(nested).check(), 104);
        Zip x = Due.lying(poked(nested, 0, 0));
        due.same("the outer one by 3", x.check(), 3);
        due.answers("the middle one is right then", 32, () -> x.load(Due.name("m")));
        due.throwsIt("the inner one is not", ArithmeticException.class, () -> x.load(Due.name("d")));
    }

    // ---- 5 to 8

    private static void whatStandsBehind() {
        due.sentence("5: what stands behind is not as said");
        for (int method : new int[] {0, 8}) {
            Bytes.Item e = new Bytes.Item("a", method, true, TEXT, 0);
            byte[] right = Bytes.archive("", e);
            int behind = 31 + e.content.length;
            checks("as said", 0, right);
            for (int i = 0; i < 16; i++) {
                checks("one more, byte " + i, 5, poked(right, behind + i, right[behind + i] + 1));
                checks("another highest bit, byte " + i, 5, poked(right, behind + i, right[behind + i] ^ 128));
            }
            checks("size and packed size the other way", method == 0 ? 0 : 5, one(new Bytes.Item("a", method, true, TEXT, 0),
                x -> {
                    x.behindSize = x.packedSize;
                    x.behindPackedSize = x.size;
                }));
        }
        checks("with flags 0 nothing stands behind", 0, new Bytes().local(stored("a", 0)).n(0x08074b50, 4).n(0, 12)
            .directory("", stored("a", 0)));
        checks("one byte later", 5, new Bytes().raw(Arrays.copyOf(new Bytes().local(later("a", 0)).all(), PART)).text(".")
            .n(0x08074b50, 4).n(Due.crcOf(TEXT), 4).n(TEXT.length, 4).n(TEXT.length, 4).directory("", later("a", 0)));
        checks("numbers that are wide in the directory are not so here", 0, one(later("a", 0), e -> {
            e.extras = Bytes.wides(e.size, e.packedSize, e.offset);
            e.size = -1;
            e.packedSize = -1;
            e.offset = -1;
        }));
    }

    private static Consumer<Bytes.Item> sizes(long size, long packedSize) {
        return e -> {
            e.size = size;
            e.packedSize = packedSize;
            e.localSize = e.flags == 8 ? 0 : size;
            e.localPackedSize = e.flags == 8 ? 0 : packedSize;
            e.behindSize = size;
            e.behindPackedSize = packedSize;
        };
    }

    private static void packedSizeOfAStoredOne() {
        due.sentence("6: the packed size of a stored one is not its size");
        int n = TEXT.length;
        checks("it is", 0, one(sizes(n, n)));
        checks("one less", 6, one(sizes(n, n - 1)));
        checks("the size is one less", 6, one(sizes(n - 1, n)));
        checks("the size is one more", 6, one(sizes(n + 1, n)));
        checks("the packed size is 0", 6, one(sizes(n, 0)));
        checks("the size is 0", 6, one(sizes(0, n)));
        Bytes.Item more = stored("a", 0);
        sizes(n, n + 1).accept(more);
        checks("one more", 6, new Bytes().local(more).text(".").directory("", more));
        checks("one more, and beyond the directory's beginning", 4, one(sizes(n, n + 1)));
        Bytes.Item big = new Bytes.Item("a", 0, false, new byte[201], 0);
        sizes(200, 201).accept(big);
        checks("201 and 200", 6, Bytes.archive("", big));
        checks("both are one less", 8, one(sizes(n - 1, n - 1)));
    }

    private static void packedBytesOfAnEntry() {
        due.sentence("6: ... or packed bytes are wrong");
        int n = TEXT.length;
        Bytes.Item e = packed("a", 0);
        int p = (int) e.packedSize;
        checks("right", 0, one(packed("a", 0), sizes(n, p)));
        checks("a byte lacks", 6, one(packed("a", 0), sizes(n, p - 1)));
        checks("all bytes lack", 6, one(packed("a", 0), sizes(n, 0)));
        Bytes.Item more = packed("a", 0);
        sizes(n, p + 1).accept(more);
        checks("a byte is behind", 6, new Bytes().local(more).n(0, 1).directory("", more));
        checks("kind 3", 6, one(packed("a", 0), x -> x.content[0] |= 6));
        checks("more than 200", 6, one(packed("a", 0), x -> {
            x.content = new Bits().fixed(true).symbol(1).symbol(1).symbol(283).number(4, 5).distance(0).symbol(256).bytes();
            sizes(200, x.content.length).accept(x);
        }));
        checks("nothing, in no bytes", 6, one(packed("a", 0), x -> {
            x.content = new byte[0];
            sizes(0, 0).accept(x);
        }));
    }

    private static void theSize() {
        due.sentence("7: the size");
        int n = TEXT.length;
        int p = (int) packed("a", 0).packedSize;
        checks("as it is", 0, one(packed("a", 0), sizes(n, p)));
        for (int size : new int[] {0, n - 1, n + 1, 200}) {
            checks("a size of " + size, 7, one(packed("a", 0), sizes(size, p)));
            checks("a size of " + size + " with flags 8", 7, one(new Bytes.Item("a", 8, true, TEXT, 0), sizes(size, p)));
        }
        checks("0 of nothing", 0, one(new Bytes.Item("a", 8, false, new byte[0], 0), x -> { }));
        checks("1 of nothing", 7, one(new Bytes.Item("a", 8, false, new byte[0], 0), sizes(1, 2)));
        checks("199 of 200", 7, one(new Bytes.Item("a", 8, false, new byte[200], 0), x -> sizes(199, x.packedSize).accept(x)));
    }

    private static void theChecksum() {
        due.sentence("8: the CRC");
        for (int bit = 0; bit < 32; bit++) {
            long turned = 1L << bit;
            checks("bit " + bit, 8, one(e -> {
                e.crc ^= turned;
                e.localCrc ^= turned;
            }));
            checks("bit " + bit + ", packed, flags 8", 8, one(new Bytes.Item("a", 8, true, TEXT, 0), e -> {
                e.crc ^= turned;
                e.behindCrc ^= turned;
            }));
        }
        checks("the first byte of the content", 8, one(e -> e.content = Due.text("Words, words")));
        checks("the last byte of the content", 8, one(e -> e.content = Due.text("words, word.")));
        checks("the CRC of nothing", 8, one(new Bytes.Item("a", 0, false, new byte[0], 0), e -> {
            e.crc = 1;
            e.localCrc = 1;
        }));
    }

    // ---- what is first

    private static void whatIsFirst() {
        due.sentence("for entry k (from 0, by the directory) 100 * k and; What is wrong first; 0 for nothing");
        Bytes.Item[] all = new Bytes.Item[8];
        for (int i = 0; i < 8; i++) {
            all[i] = stored("" + i, PART * i);
        }
        byte[] right = Bytes.archive("", all);
        checks("nothing", 0, right);
        for (int k = 0; k < 8; k++) {
            checks("entry " + k + " by 3", 100 * k + 3, poked(right, PART * k, 0));
            checks("entry " + k + " by 8", 100 * k + 8, poked(right, PART * k + 31, 0));
            if (k < 7) {
                checks("entry " + k + " is before the next", 100 * k + 8, poked(right, PART * k + 31, 0, PART * (k + 1), 0));
            }
        }
        Bytes.Item[] turned = new Bytes.Item[8];
        for (int i = 0; i < 8; i++) {
            turned[i] = all[7 - i];
        }
        Bytes b = new Bytes();
        for (Bytes.Item e : all) {
            b.local(e);
        }
        byte[] other = b.directory("", turned).all();
        checks("by the directory", 703, poked(other, 0, 0));
        checks("by the directory", 3, poked(other, PART * 7, 0, 0, 0));
        checks("1 is before 2", 1, Arrays.copyOf(poked(right, PART * 8, 0), right.length - 1));
        checks("2 is before 3", 2, poked(right, PART * 8, 0, 0, 0));
        checks("2 of the last part is before 3 of the first", 2, poked(right, PART * 8 + 47 * 7, 0, 0, 0));
        Bytes.Item three = later("a", 0);
        byte[] wrong = new Bytes().local(three).all();
        checks("3 is before 4", 3, new Bytes().raw(Arrays.copyOf(poked(wrong, 0, 0), wrong.length - 1)).directory("", three));
        Bytes.Item five = new Bytes.Item("a", 8, true, TEXT, 0);
        five.behindCrc ^= 1;
        five.content[0] |= 6;
        byte[] local = new Bytes().local(five).all();
        checks("4 is before 5 and 6", 4, new Bytes().raw(Arrays.copyOf(local, local.length - 1)).directory("", five));
        checks("5 is before 6", 5, Bytes.archive("", five));
        checks("6 is before 7 and 8", 6, one(packed("a", 0), e -> {
            e.content[0] |= 6;
            sizes(3, e.packedSize).accept(e);
            e.crc = 1;
            e.localCrc = 1;
        }));
        checks("7 is before 8", 7, one(packed("a", 0), e -> {
            sizes(3, e.packedSize).accept(e);
            e.crc = 1;
            e.localCrc = 1;
        }));
    }

    private static void checkChangesNothing() {
        due.sentence("What is wrong first; 0 for nothing");
        byte[] right = Bytes.archive("rem", stored("a", 0), new Bytes.Item("b", 8, true, TEXT, PART));
        for (int k : new int[] {-1, 0, 31, PART + 31, right.length - 4}) {
            byte[] file = k < 0 ? right : poked(right, k, right[k] ^ 6);
            Zip x = Due.lying(file);
            x.fill(5, 6);
            int told = x.check();
            due.is("wrong or not", k < 0 == (told == 0));
            due.same("again", x.check(), told);
            due.sameBytes("the file stays", Due.file(x), file);
            due.sameBytes("the buffer stays", Due.buffer(x), Due.times(5, 6));
        }
    }
}
