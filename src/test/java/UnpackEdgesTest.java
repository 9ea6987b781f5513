import java.util.ArrayList;
import java.util.Arrays;
import java.util.List;

/** The boundary cases of packed bytes and of promise 9, sentence by sentence. */
public final class UnpackEdgesTest {
    private static final Due due = new Due();

    public static void main(String[] args) {
        theLastBlock();
        kindThree();
        plainIsAligned();
        plainNumbers();
        plainBytes();
        wordsByRisingLengths();
        moreWordsThanThereCanBe();
        fixedLengths();
        howManySymbols();
        howManyDistances();
        howManyLengths();
        lengthAgain();
        lengthZero();
        evenRow();
        theEndOfABlock();
        repeatLengths();
        repeatDistances();
        repeatsOneByOne();
        symbolsThatAreWrong();
        distancesThatAreWrong();
        beforeTheFirstByte();
        moreThan200();
        noWord();
        bitsThatLack();
        bytesBehind();
        refused();
        due.finish();
    }

    /** Right in the buffer, if they have room there, and as an entry's. */
    private static void gives(String what, Bits packed, byte[] want) {
        byte[] bytes = packed.bytes();
        if (bytes.length <= 200) {
            Zip x = Due.holding(bytes);
            due.answers(what, want.length, x::unpack);
            due.sameBytes(what, Due.buffer(x), want);
        }
        Zip y = Due.lying(entry(bytes, want));
        due.answers(what + ", in an entry", 0, y::check);
        due.answers(what + ", in an entry", want.length, () -> y.load(97));
        due.sameBytes(what + ", in an entry", Due.buffer(y), want);
    }

    private static void wrong(String what, Bits packed) {
        wrong(what, packed.bytes());
    }

    private static void wrong(String what, byte[] bytes) {
        if (bytes.length <= 200) {
            Zip x = Due.holding(bytes);
            due.throwsIt(what, ArithmeticException.class, x::unpack);
            due.sameBytes(what + ": a throw leaves the buffer", Due.buffer(x), bytes);
        }
        Zip y = Due.lying(entry(bytes, new byte[0]));
        due.answers(what + ", in an entry", 6, y::check);
        due.throwsIt(what + ", in an entry", ArithmeticException.class, () -> y.load(97));
    }

    /** Right bytes of which the last ones lack, while they still stand behind, in the buffer's room or in the file. */
    private static void lacks(String what, byte[] all) {
        due.answers(what + ", all of them", 0, () -> Math.min(0, Due.holding(all).unpack()));
        for (int n = 0; n < all.length; n++) {
            byte[] some = Arrays.copyOf(all, n);
            wrong(what + ", " + n + " bytes of " + all.length, some);
            Zip x = Due.holding(all);
            Due.hold(x, some);
            due.throwsIt(what + ", the others were there before", ArithmeticException.class, x::unpack);
            due.sameBytes(what + ": a throw leaves the buffer", Due.buffer(x), some);
            Bytes.Item e = new Bytes.Item("a", 0, false, new byte[0], 0);
            e.method = 8;
            e.content = some;
            e.packedSize = n;
            e.localPackedSize = n;
            Zip y = Due.lying(new Bytes().local(e).raw(Arrays.copyOfRange(all, n, all.length)).directory("", e).all());
            due.answers(what + ", the others stand behind", 6, y::check);
        }
    }

    private static byte[] entry(byte[] packed, byte[] content) {
        Bytes.Item e = new Bytes.Item("a", 0, false, content, 0);
        e.method = 8;
        e.content = packed;
        e.packedSize = packed.length;
        e.localPackedSize = packed.length;
        return Bytes.archive("", e);
    }

    private static Bits fixed() {
        return new Bits().fixed(true);
    }

    private static int[] lengths(int n, int... pairs) {
        int[] all = new int[n];
        for (int i = 0; i < pairs.length; i += 2) {
            all[pairs[i]] = pairs[i + 1];
        }
        return all;
    }

    private static int[] one(int length) {
        return new int[] {length, 0, 0};
    }

    private static int[] again(int n) {
        return new int[] {16, n - 3, 2};
    }

    private static int[] few(int n) {
        return new int[] {17, n - 3, 3};
    }

    private static int[] zeros(int n) {
        return new int[] {18, n - 11, 7};
    }

    /** A block of kind 2 up to its codes, by a row of lengths. */
    private static Bits byRow(int symbols, int distances, int[]... row) {
        return new Bits().head(true, 2).number(symbols - 257, 5).number(distances - 1, 5)
            .lengthsBy(Bits.fullLengthCode(), 19, Arrays.asList(row));
    }

    private static void theLastBlock() {
        due.sentence("a bit that is 1 in the last one");
        gives("one block", fixed().symbol(65).symbol(256), Due.text("A"));
        wrong("no last block", new Bits().fixed(false).symbol(65).symbol(256));
        gives("two blocks", new Bits().fixed(false).symbol(65).symbol(256).fixed(true).symbol(66).symbol(256),
            Due.text("AB"));
        wrong("two blocks, the last one is not the last", new Bits().fixed(false).symbol(65).symbol(256).fixed(false)
            .symbol(66).symbol(256));
        wrong("a block behind the last one", new Bits().fixed(true).symbol(65).symbol(256).fixed(true).symbol(66)
            .symbol(256));
        Bits many = new Bits();
        for (int i = 0; i < 150; i++) {
            many.fixed(false).symbol(256);
        }
        gives("150 blocks without a byte", many.fixed(true).symbol(256), new byte[0]);
        wrong("no block", new byte[0]);
    }

    private static void kindThree() {
        due.sentence("3 is none");
        gives("kind 0", new Bits().plain(true, new byte[0]), new byte[0]);
        gives("kind 1", fixed().symbol(256), new byte[0]);
        gives("kind 2", new Bits().own(true, lengths(257, 256, 1), lengths(1)).symbol(256), new byte[0]);
        wrong("kind 3, and no more", new Bits().head(true, 3));
        wrong("kind 3, and 256 as by kind 1", new Bits().head(true, 3).symbol(256));
        wrong("kind 3, and no bytes as by kind 0", new Bits().head(true, 3).align('0').number(0, 16).number(65535, 16));
        wrong("kind 3", new Bits().head(true, 3).raw("0".repeat(40)));
        wrong("kind 3, ones", new Bits().head(true, 3).raw("1".repeat(37)));
        wrong("kind 3 in the second block", new Bits().fixed(false).symbol(256).head(true, 3).raw("0".repeat(7)));
        wrong("kind 3 in a block that is not the last", new Bits().head(false, 3).raw("0".repeat(9)).fixed(true)
            .symbol(256));
    }

    private static void plainIsAligned() {
        due.sentence("0: bits up to the end of the byte are passed over");
        for (int nines = 0; nines < 8; nines++) {
            byte[] text = Due.noRepeats(144, nines);
            byte[] all = Arrays.copyOf(text, nines + 1);
            all[nines] = 77;
            for (char bit : new char[] {'0', '1'}) {
                Bits bits = new Bits().fixed(false).text(text).symbol(256).head(true, 0);
                int passed = (8 - bits.size() % 8) % 8;
                gives(passed + " bits " + bit, bits.align(bit).number(1, 16).number(65534, 16).number(77, 8), all);
            }
        }
    }

    private static void plainNumbers() {
        due.sentence("2: n; 2: 65535 - n; n bytes, which are given out");
        for (int n : new int[] {0, 1, 2, 194, 195, 199, 200}) {
            gives("n " + n, new Bits().plain(true, Due.noRepeats(7, n)), Due.noRepeats(7, n));
        }
        wrong("n 201", new Bits().plain(true, Due.noRepeats(7, 201)));
        for (int other : new int[] {65533, 65535, 1, 0, 65534 - 256, 254}) {
            wrong("n 1, and " + other, new Bits().head(true, 0).align('0').number(1, 16).number(other, 16).number(5, 8));
        }
        wrong("n 0, and 0", new Bits().head(true, 0).align('0').number(0, 16).number(0, 16));
        wrong("n 65535, and 0", new Bits().head(true, 0).align('0').number(65535, 16).number(0, 16).number(5, 8));
        wrong("n 256, one byte", new Bits().head(true, 0).align('0').number(256, 16).number(65535 - 256, 16)
            .number(5, 8));
    }

    private static void plainBytes() {
        due.sentence("n bytes, which are given out");
        for (int n : new int[] {0, 1, 3, 30}) {
            lacks("plain bytes", new Bits().plain(true, Due.noRepeats(7, n)).bytes());
        }
        lacks("plain bytes 0", new Bits().plain(true, new byte[9]).bytes());
        gives("bytes of two blocks", new Bits().plain(false, Due.text("ab")).plain(true, Due.text("cd")),
            Due.text("abcd"));
        gives("a coded block behind", new Bits().plain(false, Due.text("ab")).fixed(true).symbol(257).distance(1)
            .symbol(256), Due.text("ababa"));
    }

    private static void wordsByRisingLengths() {
        due.sentence("given to the symbols by rising lengths and, of a length, rising symbols");
        int[] symbols = lengths(257, 10, 3, 11, 1, 12, 3, 13, 3, 256, 3);
        Bits bits = new Bits().own(true, symbols, lengths(1));
        // 11 is 0; then 10, 12, 13, 256 are 100, 101, 110, 111.
        gives("words", bits.raw("100").raw("0").raw("110").raw("101").raw("111"), new byte[] {10, 11, 13, 12});
        int[] stairs = lengths(257, 1, 15, 2, 14, 3, 13, 4, 12, 5, 11, 6, 10, 7, 9, 8, 8, 9, 7, 10, 6, 11, 5, 12, 4, 13, 3, 14,
            2, 15, 1, 256, 15);
        gives("lengths 1 to 15", new Bits().own(true, stairs, lengths(1)).raw("0").raw("10").raw("1".repeat(13) + "0")
            .raw("1".repeat(14) + "0").raw("1".repeat(15)), new byte[] {15, 14, 2, 1});
        int[] gap = lengths(257, 1, 2, 2, 5, 256, 5);
        gives("the length grows by 3", new Bits().own(true, gap, lengths(1)).raw("00").raw("01000").raw("01001"),
            new byte[] {1, 2});
        due.sentence("those of length 0 have no word");
        gives("one word of one bit", new Bits().own(true, lengths(257, 256, 1), lengths(1)).raw("0"), new byte[0]);
        gives("one word of 15 bits", new Bits().own(true, lengths(257, 256, 15), lengths(1)).raw("0".repeat(15)),
            new byte[0]);
        for (String more : new String[] {"", "0", "0".repeat(14), "0".repeat(15), "0".repeat(30)}) {
            wrong("the other word of one bit, and " + more, new Bits().own(true, lengths(257, 256, 1), lengths(1)).raw("1")
                .raw(more));
            wrong("the other word of 15 bits, and " + more, new Bits().own(true, lengths(257, 256, 15), lengths(1))
                .raw("0".repeat(14) + "1").raw(more));
        }
    }

    private static void moreWordsThanThereCanBe() {
        due.sentence("A code is wrong if there are more words than there can be (the sum ... is above 1)");
        int[] full = lengths(258, 1, 1, 2, 2, 3, 3, 4, 4, 5, 5, 6, 6, 7, 7, 8, 8, 9, 9, 10, 10, 11, 11, 12, 12, 13, 13, 14, 14,
            15, 15, 256, 15);
        gives("symbols: the sum is 1", new Bits().own(true, full, lengths(1)).symbol(256), new byte[0]);
        int[] over = full.clone();
        over[257] = 15;
        // 256 would still have its word, and end the block.
        wrong("symbols: above by 2 to the -15", new Bits().own(true, over, lengths(1)).raw("1".repeat(15)));
        int[] twos = lengths(258, 1, 1, 256, 1);
        gives("symbols: two of length 1", new Bits().own(true, twos, lengths(1)).raw("0").raw("1"), new byte[] {1});
        for (int length = 1; length <= 15; length++) {
            int[] three = twos.clone();
            three[2] = length;
            wrong("symbols: two of length 1, one of " + length, new Bits().own(true, three, lengths(1)).raw("01"));
        }
        int[] distances = lengths(17, 1, 1, 2, 2, 3, 3, 4, 4, 5, 5, 6, 6, 7, 7, 8, 8, 9, 9, 10, 10, 11, 11, 12, 12, 13, 13, 14,
            14, 15, 15, 16, 15);
        gives("distances: the sum is 1", new Bits().own(true, twos, distances).symbol(256), new byte[0]);
        int[] more = Arrays.copyOf(distances, 18);
        more[17] = 15;
        wrong("distances: above by 2 to the -15, and none is used", new Bits().own(true, twos, more).symbol(256));
        int[] code = Bits.fullLengthCode();
        gives("lengths: the sum is 1", rowBy(code), new byte[0]);
        code[18] = 4;
        wrong("lengths: above by 2 to the -5", rowBy(code));
        code[18] = 7;
        gives("lengths: below 1", rowBy(code), new byte[0]);
        code[18] = 5;
        code[17] = 0;
        code[16] = 0;
        gives("lengths: below 1", rowBy(code), new byte[0]);
        int[] seven = lengths(19, 0, 1, 1, 2, 2, 3, 3, 4, 4, 5, 5, 6, 6, 7, 7, 7);
        gives("lengths: the sum is 1, by 7 bits", rowBy(seven), new byte[0]);
        seven[8] = 7;
        wrong("lengths: above by 2 to the -7", rowBy(seven));
    }

    /** Lengths 1 for 0 and 256 by a row of lengths that are told one by one, and then 256. */
    private static Bits rowBy(int[] code) {
        List<int[]> row = new ArrayList<>();
        for (int i = 0; i < 258; i++) {
            row.add(one(i == 0 || i == 256 ? 1 : 0));
        }
        return new Bits().head(true, 2).number(0, 5).number(0, 5).lengthsBy(code, 19, row).raw("1");
    }

    private static void fixedLengths() {
        due.sentence("Kind 1: lengths of symbols 0 .. 287 are 8 up to 143, 9 up to 255, 7 up to 279, 8 up to 287");
        gives("0", fixed().raw("00110000").raw("0000000"), new byte[] {0});
        gives("143", fixed().raw("10111111").raw("0000000"), new byte[] {(byte) 143});
        gives("144", fixed().raw("110010000").raw("0000000"), new byte[] {(byte) 144});
        gives("255", fixed().raw("111111111").raw("0000000"), new byte[] {(byte) 255});
        gives("257", fixed().raw("00110001").raw("0000001").raw("00000").raw("0000000"), Due.times(1, 4));
        gives("279", fixed().raw("00110001").raw("0010111").number(0, 4).raw("00000").raw("0000000"), Due.times(1, 100));
        gives("280", fixed().raw("00110001").raw("11000000").number(0, 4).raw("00000").raw("0000000"), Due.times(1, 116));
        wrong("286", fixed().raw("00110001").raw("11000110").raw("00000").raw("0000000"));
        wrong("287", fixed().raw("00110001").raw("11000111").raw("00000").raw("0000000"));
        due.sentence("of the distances 0 .. 31 they are 5");
        gives("distance 0", fixed().symbol(1).symbol(257).raw("00000").symbol(256), Due.times(1, 4));
        gives("distance 1", fixed().symbol(1).symbol(2).symbol(257).raw("00001").symbol(256), new byte[] {1, 2, 1, 2, 1});
        wrong("distance 29", fixed().symbol(1).symbol(257).raw("11101").number(0, 13).symbol(256));
        wrong("distance 30", fixed().symbol(1).symbol(257).raw("11110").symbol(256));
        wrong("distance 31", fixed().symbol(1).symbol(257).raw("11111").symbol(256));
    }

    private static void howManySymbols() {
        due.sentence("5 bits: 257 less than how many symbols");
        gives("257", new Bits().own(true, lengths(257, 1, 1, 256, 1), lengths(1)).symbol(1).symbol(256), new byte[] {1});
        gives("258", new Bits().own(true, lengths(258, 1, 2, 256, 2, 257, 2), lengths(1, 0, 1)).symbol(1).symbol(257)
            .distance(0).symbol(256), Due.times(1, 4));
        gives("286", new Bits().own(true, lengths(286, 1, 2, 256, 2, 285, 2), lengths(1)).symbol(1).symbol(256),
            new byte[] {1});
        gives("287", new Bits().own(true, lengths(287, 1, 2, 256, 2, 286, 2), lengths(1)).symbol(1).symbol(256),
            new byte[] {1});
        gives("288", new Bits().own(true, lengths(288, 1, 2, 256, 2, 287, 2), lengths(1)).symbol(1).symbol(256),
            new byte[] {1});
        wrong("a symbol without a word", new Bits().own(true, lengths(257, 1, 2), lengths(1)).raw("00")
            .raw("01".repeat(20)));
    }

    private static void howManyDistances() {
        due.sentence("5: 1 less than how many distances");
        int[] symbols = lengths(258, 1, 2, 256, 2, 257, 2);
        for (int n = 1; n <= 32; n++) {
            int[] distances = lengths(n, 0, 2);
            distances[n - 1] = 2;
            gives(n + " distances", new Bits().own(true, symbols, distances).symbol(1).symbol(257).distance(0)
                .symbol(256), Due.times(1, 4));
        }
        wrong("none of them has a word", new Bits().own(true, symbols, lengths(1)).symbol(1).symbol(257).raw("0")
            .symbol(256).raw("0".repeat(20)));
        gives("none has a word, and none is needed", new Bits().own(true, symbols, lengths(32)).symbol(1).symbol(256),
            new byte[] {1});
    }

    private static void howManyLengths() {
        due.sentence("4: 4 less than how many lengths of three bits come then; (others 0)");
        int[] order = {16, 17, 18, 0, 8, 7, 9, 6, 10, 5, 11, 4, 12, 3, 13, 2, 14, 1, 15};
        for (int told = 4; told <= 19; told++) {
            // The length told last is that of the words of 256 and, if there is one, of another symbol.
            int length = order[told - 1];
            int[] code = lengths(19, 18, 2, 0, 2);
            code[length] = 2;
            int[] symbols = lengths(257);
            int[] row = length == 0 || length > 15 ? one(0) : one(length);
            symbols[256] = row[0];
            Bits bits = new Bits().head(true, 2).number(0, 5).number(0, 5).lengthsBy(code, told,
                List.of(zeros(138), zeros(118), row, one(0))).use(symbols, lengths(1));
            if (symbols[256] == 0) {
                wrong(told + " lengths, and no words", bits.raw("0".repeat(30)));
            } else {
                gives(told + " lengths", bits.symbol(256), new byte[0]);
            }
        }
        // The fifth is that of 8: if four are told, 8 has no word.
        Bits four = new Bits().head(true, 2).number(0, 5).number(0, 5).number(0, 4).number(0, 3).number(0, 3)
            .number(1, 3).number(2, 3).raw("0").number(127, 7).raw("0").number(107, 7);
        wrong("8 has no word", four.raw("11").raw("10").raw("0".repeat(20)));
        due.sentence("numbers lowest bit first, these too");
        for (int length = 1; length <= 7; length++) {
            int[] code = lengths(19, 0, 1, 1, length == 1 ? 1 : length);
            List<int[]> row = new ArrayList<>();
            for (int i = 0; i < 258; i++) {
                row.add(one(i == 256 ? 1 : 0));
            }
            gives("a word of " + length + " bits", new Bits().head(true, 2).number(0, 5).number(0, 5)
                .lengthsBy(code, 19, row).raw("0"), new byte[0]);
        }
    }

    private static void lengthAgain() {
        due.sentence("16 the one before (there must be one), 3 times and as often as two bits say");
        for (int n = 3; n <= 6; n++) {
            int[] symbols = lengths(257);
            Arrays.fill(symbols, 257 - n - 1, 257, 3);
            gives(n + " times", byRow(257, 1, zeros(138), zeros(118 - n), one(3), again(n), one(0)).use(symbols, lengths(1))
                .symbol(257 - n).symbol(256), new byte[] {(byte) (257 - n)});
        }
        // All else is right, whether the one before is taken as 0 or as the last one of the block before.
        wrong("there is none before", byRow(257, 1, again(3), zeros(138), zeros(115), one(1), one(1)).raw("0"));
        for (String end : new String[] {"00", "11"}) {
            wrong("there is none before, but in the block before", new Bits()
                .own(false, lengths(257, 256, 2), lengths(1, 0, 2)).symbol(256).head(true, 2).number(0, 10)
                .lengthsBy(Bits.fullLengthCode(), 19, List.of(again(3), zeros(138), zeros(115), one(2), one(0))).raw(end));
        }
        wrong("there is none before, and no more", new Bits().own(false, lengths(257, 256, 2), lengths(1)).symbol(256)
            .head(true, 2).number(0, 10).lengthsBy(lengths(19, 16, 1, 18, 2), 4, List.of(again(6))));
        gives("one is before", byRow(257, 1, one(3), again(3), zeros(138), zeros(114), one(3), one(0))
            .use(lengths(257, 0, 3, 1, 3, 2, 3, 3, 3, 256, 3), lengths(1)).symbol(3).symbol(256), new byte[] {3});
        gives("the one before is 0", byRow(257, 1, one(0), again(3), zeros(138), zeros(114), one(3), one(0))
            .use(lengths(257, 256, 3), lengths(1)).symbol(256), new byte[0]);
        gives("the one before was given by 18", byRow(257, 1, zeros(138), zeros(115), again(3), one(3), one(0))
            .use(lengths(257, 256, 3), lengths(1)).symbol(256), new byte[0]);
        gives("the one before was given by 16", byRow(257, 1, zeros(138), zeros(112), one(3), again(3), again(3), one(0))
            .use(lengths(257, 250, 3, 251, 3, 252, 3, 253, 3, 254, 3, 255, 3, 256, 3), lengths(1)).symbol(253).symbol(256),
            new byte[] {(byte) 253});
        gives("the one before is a symbol's, these are distances'", byRow(258, 3, zeros(138), zeros(118), one(2), one(2),
            again(3)).use(lengths(258, 256, 2, 257, 2), lengths(3, 0, 2, 1, 2, 2, 2)).symbol(256), new byte[0]);
    }

    private static void lengthZero() {
        due.sentence("17 the length 0, 3 times and three bits more; 18 it, 11 times and seven bits more");
        for (int n = 3; n <= 10; n++) {
            gives("17: " + n + " times", byRow(257, 1, one(2), few(n), zeros(138), zeros(117 - n), one(2), one(0))
                .use(lengths(257, 0, 2, 256, 2), lengths(1)).symbol(0).symbol(256), new byte[1]);
        }
        for (int n = 11; n <= 138; n++) {
            int rest = 255 - n;
            List<int[]> row = new ArrayList<>(List.of(one(2), zeros(n)));
            for (; rest >= 11; rest -= Math.min(rest, 138)) {
                row.add(zeros(Math.min(rest, 138)));
            }
            for (; rest > 0; rest--) {
                row.add(one(0));
            }
            row.add(one(2));
            row.add(one(0));
            gives("18: " + n + " times", byRow(257, 1, row.toArray(new int[0][])).use(lengths(257, 0, 2, 256, 2), lengths(1))
                .symbol(0).symbol(256), new byte[1]);
        }
    }

    private static void evenRow() {
        due.sentence("The row must come out even");
        int[] symbols = lengths(257, 255, 1, 256, 1);
        for (int distances = 1; distances <= 8; distances++) {
            Bits bits = byRow(257, distances, zeros(138), zeros(117), one(1), one(1), few(5)).use(symbols, lengths(1));
            if (distances == 5) {
                gives("17 up to the end", bits.symbol(256), new byte[0]);
            } else if (distances < 5) {
                wrong("17 by " + (5 - distances) + " too far", bits.symbol(256));
            }
        }
        for (int distances = 10; distances <= 12; distances++) {
            Bits bits = byRow(257, distances, zeros(138), zeros(117), one(1), one(1), zeros(distances == 10 ? 11 : distances))
                .use(symbols, lengths(1)).symbol(256);
            if (distances == 10) {
                wrong("18 by one too far", bits);
            } else {
                gives("18 up to the end", bits, new byte[0]);
            }
        }
        for (int distances = 3; distances <= 6; distances++) {
            int[] two = lengths(257, 255, 2, 256, 3);
            int[] all = new int[distances];
            Arrays.fill(all, 3);
            gives("16 up to the end", byRow(257, distances, zeros(138), zeros(117), one(2), one(3), again(distances))
                .use(two, all).symbol(256), new byte[0]);
            wrong("16 by one too far", byRow(257, distances - 1, zeros(138), zeros(117), one(2), one(3), again(distances))
                .use(two, all).symbol(256));
        }
        wrong("too far behind 288 and 32", byRow(288, 32, zeros(138), zeros(118), one(1), zeros(61), again(3)).raw("0"));
        gives("just 288 and 32", byRow(288, 32, zeros(138), zeros(118), one(1), zeros(60), again(3)).raw("0"),
            new byte[0]);
        wrong("one length lacks, and all bits with it", byRow(257, 1, zeros(138), zeros(118), one(1)));
    }

    private static void theEndOfABlock() {
        due.sentence("A symbol below 256 is a byte. 256 ends the block");
        gives("255", fixed().symbol(255).symbol(256), new byte[] {-1});
        gives("256", fixed().symbol(256), new byte[0]);
        wrong("no 256", fixed().symbol(255));
        wrong("no 256, and bits 1", fixed().symbol(255).align('1'));
        gives("codes are those of their block", new Bits().own(false, lengths(257, 65, 1, 256, 1), lengths(1)).symbol(65)
            .symbol(256).own(true, lengths(257, 66, 1, 256, 1), lengths(1)).symbol(66).symbol(256), Due.text("AB"));
    }

    private static void repeatLengths() {
        due.sentence("257 .. 264 is a REPEAT of length 3 .. 10; 285 one of 258; ... its length is (4 + j) * 2 to the e, and 3");
        for (int s = 257; s <= 264; s++) {
            gives("symbol " + s, fixed().symbol(9).symbol(s).distance(0).symbol(256), Due.times(9, s - 253));
        }
        for (int e = 1; e <= 5; e++) {
            for (int j = 0; j <= 3; j++) {
                int symbol = 264 + 4 * (e - 1) + 1 + j;
                int least = (4 + j) * (1 << e) + 3;
                for (int more : new int[] {0, 1, (1 << e) - 2, (1 << e) - 1}) {
                    Bits bits = fixed().symbol(9).symbol(symbol).number(more, e).distance(0).symbol(256);
                    if (least + more < 200) {
                        gives("symbol " + symbol + " and " + more, bits, Due.times(9, least + more + 1));
                    } else {
                        wrong("symbol " + symbol + " and " + more, bits);
                    }
                }
            }
        }
        wrong("285", fixed().symbol(9).symbol(285).distance(0).symbol(256));
        gives("length 199", fixed().symbol(9).symbol(283).number(4, 5).distance(0).symbol(256), Due.times(9, 200));
        wrong("length 200", fixed().symbol(9).symbol(283).number(5, 5).distance(0).symbol(256));
    }

    private static void repeatDistances() {
        due.sentence("0 .. 3 is 1 .. 4; 2 e + 2 + j is (2 + j) * 2 to the e, and 1, and what the next e bits say");
        byte[] text = new byte[197];
        for (int i = 0; i < 197; i++) {
            text[i] = (byte) (i * i + i / 7 & 1);
        }
        int[] symbols = lengths(258, 0, 2, 1, 2, 256, 2, 257, 2);
        for (int d = 0; d < 30; d++) {
            int e = d < 4 ? 0 : d / 2 - 1;
            int least = d < 4 ? d + 1 : (2 + d % 2) * (1 << e) + 1;
            for (int more : new int[] {0, 1, (1 << e) - 2, (1 << e) - 1, 4, 5, 68, 69}) {
                if (more < 0 || more >= 1 << e) {
                    continue;
                }
                Bits bits = new Bits().own(true, symbols, fives(30)).text(text).symbol(257).distance(d).number(more, e)
                    .symbol(256);
                byte[] want = Arrays.copyOf(text, 200);
                for (int i = 197; i < 200 && least + more <= 197; i++) {
                    want[i] = want[i - least - more];
                }
                if (least + more <= 197) {
                    gives("distance " + d + " and " + more, bits, want);
                } else {
                    wrong("distance " + d + " and " + more, bits);
                }
            }
        }
    }

    private static int[] fives(int n) {
        int[] all = new int[n];
        Arrays.fill(all, 5);
        return all;
    }

    private static void repeatsOneByOne() {
        due.sentence("So many bytes are given out, one by one, each as the one that was given out so far before");
        gives("distance 1", fixed().text(Due.text("ab")).symbol(259).distance(0).symbol(256), Due.text("abbbbbb"));
        gives("distance 2", fixed().text(Due.text("ab")).symbol(259).distance(1).symbol(256), Due.text("abababa"));
        gives("as far as it is long", fixed().text(Due.text("abc")).symbol(257).distance(2).symbol(256),
            Due.text("abcabc"));
        gives("farther than it is long", fixed().text(Due.text("abcd")).symbol(257).distance(3).symbol(256),
            Due.text("abcdabc"));
    }

    private static void symbolsThatAreWrong() {
        due.sentence("WRONG are 286, 287");
        int[] symbols = lengths(288, 1, 3, 256, 3, 257, 3, 284, 3, 285, 3, 286, 3, 287, 3);
        gives("284, whose 227 bytes are too many, is not used", new Bits().own(true, symbols, lengths(1, 0, 1)).symbol(1)
            .symbol(257).distance(0).symbol(256), Due.times(1, 4));
        for (int s : new int[] {286, 287}) {
            wrong("by a code of its own: " + s, new Bits().own(true, symbols, lengths(1, 0, 1)).symbol(1).symbol(s)
                .distance(0).symbol(256));
            wrong("by kind 1: " + s, fixed().symbol(1).symbol(s).distance(0).symbol(256));
            wrong("behind 200 bytes: " + s, new Bits().own(true, symbols, lengths(1, 0, 1)).text(Due.times(1, 200))
                .symbol(s).distance(0).symbol(256));
        }
    }

    private static void distancesThatAreWrong() {
        due.sentence("WRONG are ... distances 30, 31");
        int[] symbols = lengths(258, 1, 2, 256, 2, 257, 2);
        int[] distances = lengths(32, 0, 3, 29, 3, 30, 3, 31, 3);
        gives("0", new Bits().own(true, symbols, distances).symbol(1).symbol(257).distance(0).symbol(256),
            Due.times(1, 4));
        for (int d : new int[] {30, 31}) {
            wrong("by a code of its own: " + d, new Bits().own(true, symbols, distances).symbol(1).symbol(257).distance(d)
                .symbol(256).raw("0".repeat(16)));
            wrong("by kind 1: " + d, fixed().symbol(1).symbol(257).distance(d).number(0, 14).symbol(256));
        }
    }

    private static void beforeTheFirstByte() {
        due.sentence("WRONG are ... a distance before the first byte");
        wrong("nothing is before", fixed().symbol(257).distance(0).symbol(256));
        for (int n = 1; n <= 3; n++) {
            byte[] text = Due.noRepeats(65, n);
            byte[] want = Arrays.copyOf(text, n + 3);
            for (int i = n; i < n + 3; i++) {
                want[i] = want[i - n];
            }
            gives("the first of " + n, fixed().text(text).symbol(257).distance(n - 1).symbol(256), want);
            wrong("before the first of " + n, fixed().text(text).symbol(257).distance(n).symbol(256));
        }
        gives("the first, of a block before", new Bits().plain(false, Due.text("abc")).fixed(true).symbol(257).distance(2)
            .symbol(256), Due.text("abcabc"));
        wrong("before the first of a block before", new Bits().plain(false, Due.text("abc")).fixed(true).symbol(257)
            .distance(3).symbol(256));
        wrong("before the first at once", new Bits().fixed(false).symbol(256).fixed(true).symbol(257).distance(0)
            .symbol(256));
        wrong("as far as distances go", fixed().symbol(1).symbol(257).distance(29).number(8191, 13).symbol(256));
    }

    private static void moreThan200() {
        due.sentence("WRONG are ... more than 200 bytes");
        int[] symbols = lengths(258, 1, 2, 256, 2, 257, 2);
        for (int nines = 0; nines < 8; nines++) {
            // The bytes beyond are the last but the end's word, at every place in a byte.
            byte[] first = Due.noRepeats(144, nines);
            byte[] all = Arrays.copyOf(first, 200);
            Arrays.fill(all, nines, 200, (byte) 1);
            gives("200 behind " + nines, new Bits().fixed(false).text(first).symbol(256).own(true, symbols, lengths(1, 0, 1))
                .text(Due.times(1, 200 - nines)).symbol(256), all);
            wrong("201 behind " + nines, new Bits().fixed(false).text(first).symbol(256).own(true, symbols, lengths(1, 0, 1))
                .text(Due.times(1, 201 - nines)).symbol(256));
            wrong("201 by a repeat behind " + nines, new Bits().fixed(false).text(first).symbol(256)
                .own(true, symbols, lengths(1, 0, 1)).text(Due.times(1, 198 - nines)).symbol(257).distance(0).symbol(256));
        }
        for (int n = 196; n <= 201; n++) {
            Bits bytes = new Bits().own(true, symbols, lengths(1, 0, 1)).text(Due.times(1, n)).symbol(256);
            Bits repeat = new Bits().own(true, symbols, lengths(1, 0, 1)).text(Due.times(1, n - 3)).symbol(257).distance(0)
                .symbol(256);
            Bits plain = new Bits().plain(false, Due.times(1, n - 1)).plain(true, Due.times(1, 1));
            Bits block = new Bits().plain(false, Due.times(1, n)).fixed(true).symbol(256);
            if (n <= 200) {
                gives(n + " by bytes", bytes, Due.times(1, n));
                gives(n + " by a repeat", repeat, Due.times(1, n));
                gives(n + " by plain ones", plain, Due.times(1, n));
                gives(n + ", and a block behind", block, Due.times(1, n));
            } else {
                wrong(n + " by bytes", bytes);
                wrong(n + " by a repeat", repeat);
                wrong(n + " by plain ones", plain);
                wrong(n + ", and a block behind", block);
            }
        }
        wrong("a repeat that begins before 200", new Bits().own(true, symbols, lengths(1, 0, 1)).text(Due.times(1, 199))
            .symbol(257).distance(0).symbol(256));
        gives("a plain block of none at 200", new Bits().plain(false, Due.times(1, 200)).plain(true, new byte[0]),
            Due.times(1, 200));
    }

    private static void noWord() {
        due.sentence("WRONG are ... bits that are no word");
        int[] symbols = lengths(258, 1, 2, 256, 2, 257, 2);
        Bits word = new Bits().own(true, symbols, lengths(2, 0, 2, 1, 2));
        gives("words", word.symbol(1).symbol(257).raw("00").symbol(256), Due.times(1, 4));
        for (int ones = 2; ones <= 15; ones++) {
            String no = "1".repeat(ones);
            wrong("no word of a symbol, by " + ones, new Bits().own(true, symbols, lengths(1)).symbol(1).raw(no).symbol(256));
            wrong("no word of a distance, by " + ones, new Bits().own(true, symbols, lengths(2, 0, 2, 1, 2)).symbol(1)
                .symbol(257).raw(no).symbol(256));
            List<int[]> row = new ArrayList<>();
            for (int i = 0; i < 257; i++) {
                row.add(one(i == 256 ? 1 : 0));
            }
            wrong("no word of a length, by " + ones, new Bits().head(true, 2).number(0, 10)
                .lengthsBy(lengths(19, 0, 2, 1, 2), 19, row).raw(no).raw("0"));
        }
        wrong("a code without words", new Bits().own(true, lengths(257), lengths(1)).raw("0".repeat(40)));
    }

    private static void bitsThatLack() {
        due.sentence("WRONG are ... bits that lack");
        int[] symbols = lengths(286, 1, 3, 2, 3, 256, 3, 265, 3, 281, 3, 284, 3);
        int[] distances = lengths(6, 0, 1, 5, 1);
        Bits own = new Bits().own(true, symbols, distances).text(new byte[] {1, 2, 1, 2, 2, 1, 1, 1}).symbol(265).number(1, 1)
            .distance(5).number(1, 1).symbol(256);
        gives("all of them", own, new byte[] {1, 2, 1, 2, 2, 1, 1, 1, 1, 2, 1, 2, 2, 1, 1, 1, 1, 2, 1, 2});
        lacks("kind 2", own.bytes());
        lacks("kind 1", fixed().text(Due.noRepeats(200, 30)).symbol(256).bytes());
        lacks("kind 1, repeats", fixed().text(Due.text("abcdefghi")).symbol(269).number(3, 2).distance(5).number(1, 1)
            .symbol(273).number(7, 3).distance(6).number(0, 2).symbol(256).bytes());
        lackBehind200();
        for (int nines = 0; nines < 8; nines++) {
            lackInTheLastByte(nines);
        }
    }

    /** As many packed bytes as the buffer can have, and bits lack behind them. */
    private static void lackBehind200() {
        wrong("a block", new Bits().plain(false, Due.noRepeats(0, 195)));
        for (int more = 1; more <= 5; more++) {
            wrong("bytes of kind 0, " + more, Arrays.copyOf(new Bits().plain(false, Due.noRepeats(0, 195 - more))
                .plain(true, Due.times(1, 100)).bytes(), 200));
            wrong("bits of kind 2, " + more, Arrays.copyOf(new Bits().plain(false, Due.noRepeats(0, 195 - more))
                .own(true, lengths(257, 1, 1, 256, 1), lengths(1)).bytes(), 200));
            wrong("bits of kind 1, " + more, Arrays.copyOf(new Bits().plain(false, Due.noRepeats(0, 195 - more)).fixed(true)
                .symbol(284).number(31, 5).distance(29).number(8191, 13).symbol(256).bytes(), 200));
        }
    }

    /** Blocks whose last bit is the first, second .. of a byte, with that byte and without. */
    private static void lackInTheLastByte(int nines) {
        byte[] text = Due.noRepeats(150, nines);
        Bits bits = fixed().text(text).symbol(256);
        String what = "the last byte has " + bits.size() % 8 + " bits";
        gives(what, bits, text);
        wrong(what + ", and lacks", Arrays.copyOf(bits.bytes(), bits.bytes().length - 1));
        Bits length = fixed().text(text).symbol(5).symbol(284);
        wrong(what + ": the bits of a length lack", length);
        Bits distance = fixed().text(text).symbol(5).symbol(257);
        wrong(what + ": a distance lacks", distance);
        wrong(what + ": the bits of a distance lack", fixed().text(text).symbol(5).symbol(257).distance(29));
        wrong(what + ": a kind lacks", new Bits().fixed(false).text(text).symbol(256).raw("1"));
        wrong(what + ": a block lacks", new Bits().fixed(false).text(text).symbol(256));
        wrong(what + ": how many symbols lacks", new Bits().fixed(false).text(text).symbol(256).head(true, 2));
        wrong(what + ": how many distances lacks", new Bits().fixed(false).text(text).symbol(256).head(true, 2)
            .number(0, 5));
        wrong(what + ": how many lengths lacks", new Bits().fixed(false).text(text).symbol(256).head(true, 2)
            .number(0, 10));
        wrong(what + ": lengths lack", new Bits().fixed(false).text(text).symbol(256).head(true, 2).number(0, 14)
            .number(1, 3));
        wrong(what + ": a row lacks", new Bits().fixed(false).text(text).symbol(256).head(true, 2).number(0, 10)
            .lengthsBy(lengths(19, 0, 2, 18, 2), 4, List.of(zeros(138))));
        wrong(what + ": how often lacks", new Bits().fixed(false).text(text).symbol(256).head(true, 2).number(0, 10)
            .lengthsBy(lengths(19, 0, 2, 18, 2), 4, List.of(new int[] {18, 0, 0})));
    }

    private static void bytesBehind() {
        due.sentence("WRONG are ... bytes behind the last block's");
        for (int nines = 0; nines < 8; nines++) {
            byte[] text = Due.noRepeats(150, nines);
            Bits bits = fixed().text(text).symbol(256);
            String what = "the last byte has " + bits.size() % 8 + " bits";
            gives(what + ", the others are 1", new Bits().fixed(true).text(text).symbol(256).align('1'), text);
            wrong(what + ", and a byte 0 is behind", Arrays.copyOf(bits.bytes(), bits.bytes().length + 1));
            wrong(what + ", and a byte is behind", new Bits().raw("").fixed(true).text(text).symbol(256).align('1')
                .number(255, 8));
        }
        gives("plain", new Bits().plain(true, Due.text("ab")), Due.text("ab"));
        wrong("plain, and a byte behind", new Bits().plain(true, Due.text("ab")).number(0, 8));
        wrong("many bytes behind", Arrays.copyOf(fixed().symbol(256).bytes(), 200));
    }

    private static void refused() {
        due.sentence("ArithmeticException: they are wrong");
        byte[][] some = {{}, {3}, {3, 0, 0}, {7, 0}, {1, 0, 0, 0, 0}, Due.times(0, 200), Due.times(255, 200),
            new Bits().own(true, lengths(258, 1, 2, 256, 2, 257, 2), lengths(1, 0, 1)).text(Due.times(1, 201)).symbol(256)
                .bytes()};
        for (byte[] bytes : some) {
            new Refusal(due, () -> {
                Zip x = Due.holding(bytes);
                x.create();
                x.add(97, 8, false);
                return x;
            }).of(Due.hex(bytes), ArithmeticException.class, Zip::unpack);
        }
    }
}
