import java.util.ArrayList;
import java.util.Arrays;
import java.util.List;
import java.util.Random;

/** Promise 9: unpack. */
public final class UnpackTest {
    private static final Due due = new Due();

    public static void main(String[] args) {
        plainBlocks();
        fixedBlocks();
        everyLength();
        everyDistance();
        ownCodes();
        wrongCodes();
        rowsOfLengths();
        ends();
        lackAtTheLimit();
        againstTheLibrary();
        due.finish();
    }

    private static void gives(String what, Bits packed, byte[] want) {
        gives(what, packed.bytes(), want);
    }

    private static void gives(String what, byte[] packed, byte[] want) {
        Zip x = Due.holding(packed);
        due.answers(what, want.length, x::unpack);
        due.sameBytes(what, Due.buffer(x), want);
    }

    private static void wrong(String what, Bits packed) {
        wrong(what, packed.bytes());
    }

    private static void wrong(String what, byte[] packed) {
        Zip x = Due.holding(packed);
        due.throwsIt(what, ArithmeticException.class, x::unpack);
        due.sameBytes(what + ": a throw leaves the buffer", Due.buffer(x), packed);
    }

    private static byte[] some(int n) {
        byte[] bytes = new byte[n];
        for (int i = 0; i < n; i++) {
            bytes[i] = (byte) (i * 37);
        }
        return bytes;
    }

    private static void plainBlocks() {
        gives("plain", new Bits().plain(true, Due.text("hello")), Due.text("hello"));
        gives("plain of none", new Bits().plain(true, new byte[0]), new byte[0]);
        gives("plain of 195", new Bits().plain(true, some(195)), some(195));
        gives("plain twice", new Bits().plain(false, some(3)).plain(true, some(2)), new byte[] {0, 37, 74, 0, 37});
        gives("passed bits are any", new Bits().head(true, 0).align('1').number(1, 16).number(65534, 16)
            .number(77, 8), new byte[] {77});
        gives("plain behind a coded one", new Bits().fixed(false).symbol(65).symbol(256)
            .plain(true, new byte[] {1}), new byte[] {65, 1});
        gives("no bits to pass over", new Bits().fixed(false).text(new byte[] {-1, -1, -1}).symbol(256)
            .plain(true, new byte[] {7}), new byte[] {-1, -1, -1, 7});
        wrong("plain, second number", new Bits().head(true, 0).align('0').number(1, 16).number(65535, 16)
            .number(77, 8));
        wrong("plain, second number is the first", new Bits().head(true, 0).align('0').number(1, 16)
            .number(1, 16).number(77, 8));
        wrong("plain, a byte lacks", new Bits().head(true, 0).align('0').number(2, 16).number(65533, 16)
            .number(77, 8));
        wrong("plain, the second number lacks", new Bits().head(true, 0).align('0').number(2, 16).number(253, 8));
        wrong("plain, both numbers lack", new Bits().head(true, 0));
        wrong("plain, bytes behind", new Bits().plain(true, some(2)).number(0, 8));
        wrong("plain, not the last", new Bits().plain(false, some(2)));
        Bits full = new Bits().fixed(false).text(some(5)).symbol(256);
        gives("up to 200", full.plain(true, some(0)), some(5));
        gives("just 200", repeated(new Bits().fixed(false)).symbol(256).plain(true, some(100)), tailed(100));
        wrong("just 201", repeated(new Bits().fixed(false)).symbol(256).plain(true, some(101)));
    }

    /** 100 bytes 9 by repeats. */
    private static Bits repeated(Bits bits) {
        return bits.symbol(9).symbol(279).number(0, 4).distance(0);
    }

    private static byte[] tailed(int n) {
        byte[] all = new byte[100 + n];
        Arrays.fill(all, 0, 100, (byte) 9);
        System.arraycopy(some(n), 0, all, 100, n);
        return all;
    }

    private static byte[] times(int b, int n) {
        byte[] all = new byte[n];
        Arrays.fill(all, (byte) b);
        return all;
    }

    private static void fixedBlocks() {
        byte[] all = new byte[170];
        for (int i = 0; i < 170; i++) {
            all[i] = (byte) (i + 86);
        }
        gives("all long bytes", new Bits().fixed(true).text(all).symbol(256), all);
        byte[] low = new byte[130];
        for (int i = 0; i < 130; i++) {
            low[i] = (byte) i;
        }
        gives("all short bytes", new Bits().fixed(true).text(low).symbol(256), low);
        gives("repeat into itself", new Bits().fixed(true).text(Due.text("ab")).symbol(260).distance(1)
            .symbol(256), Due.text("abababab"));
        gives("repeat of the block before", new Bits().fixed(false).text(Due.text("xyz")).symbol(256)
            .fixed(true).symbol(257).distance(2).symbol(256), Due.text("xyzxyz"));
        wrong("symbol 286", new Bits().fixed(true).symbol(1).symbol(286).distance(0).symbol(256));
        wrong("symbol 287", new Bits().fixed(true).symbol(1).symbol(287).distance(0).symbol(256));
        wrong("distance 30", new Bits().fixed(true).symbol(1).symbol(257).distance(30).number(0, 14).symbol(256));
        wrong("distance 31", new Bits().fixed(true).symbol(1).symbol(257).distance(31).number(0, 14).symbol(256));
        wrong("before the first byte", new Bits().fixed(true).symbol(257).distance(0).symbol(256));
        wrong("one before the first byte", new Bits().fixed(true).symbol(1).symbol(257).distance(1).symbol(256));
        wrong("kind 3", new Bits().head(true, 3).symbol(256));
        wrong("kind 3 behind", new Bits().plain(false, some(1)).head(true, 3).number(0, 13));
        gives("199 and 1", new Bits().fixed(true).symbol(4).symbol(283).number(4, 5).distance(0).symbol(256),
            times(4, 200));
        wrong("200 and 1", new Bits().fixed(true).symbol(4).symbol(283).number(5, 5).distance(0).symbol(256));
        wrong("200, then a byte", new Bits().fixed(true).symbol(4).symbol(283).number(4, 5).distance(0)
            .symbol(4).symbol(256));
        wrong("200, then a byte, up to the last bit", new Bits().fixed(true).text(new byte[] {-1, -1, -1}).symbol(283)
            .number(2, 5).distance(0).symbol(255).symbol(256));
        wrong("symbol 286 last", new Bits().fixed(true).symbol(1).symbol(286));
        wrong("symbol 287 last", new Bits().fixed(true).symbol(1).symbol(287));
        wrong("distance 30 last", new Bits().fixed(true).symbol(1).symbol(257).distance(30));
        wrong("a distance too far last", new Bits().fixed(true).symbol(1).symbol(257).distance(3));
        wrong("258", new Bits().fixed(true).symbol(4).symbol(285).distance(0).symbol(256));
        wrong("258 by 284", new Bits().fixed(true).symbol(4).symbol(284).number(31, 5).distance(0).symbol(256));
    }

    private static void everyLength() {
        int[] base = {3, 4, 5, 6, 7, 8, 9, 10, 11, 13, 15, 17, 19, 23, 27, 31, 35, 43, 51, 59, 67, 83, 99,
            115, 131, 163, 195};
        int[] extra = {0, 0, 0, 0, 0, 0, 0, 0, 1, 1, 1, 1, 2, 2, 2, 2, 3, 3, 3, 3, 4, 4, 4, 4, 5, 5, 5};
        for (int i = 0; i < base.length; i++) {
            for (int more = 0; more < 1 << extra[i] && base[i] + more < 200; more++) {
                gives("symbol " + (257 + i) + " and " + more, new Bits().fixed(true).symbol(200).symbol(257 + i)
                    .number(more, extra[i]).distance(0).symbol(256), times(200, 1 + base[i] + more));
            }
        }
    }

    private static void everyDistance() {
        int[] base = {1, 2, 3, 4, 5, 7, 9, 13, 17, 25, 33, 49, 65, 97, 129, 193, 257, 385, 513, 769, 1025, 1537,
            2049, 3073, 4097, 6145, 8193, 12289, 16385, 24577};
        int[] extra = {0, 0, 0, 0, 1, 1, 2, 2, 3, 3, 4, 4, 5, 5, 6, 6, 7, 7, 8, 8, 9, 9, 10, 10, 11, 11, 12, 12,
            13, 13};
        // Own codes of short words let all of 197 bytes stand in front.
        int[] symbols = new int[258];
        symbols[1] = 2;
        symbols[2] = 2;
        symbols[256] = 2;
        symbols[257] = 2;
        int[] distances = new int[30];
        for (int d = 0; d < 30; d++) {
            distances[d] = 5;
        }
        byte[] text = new byte[197];
        Random random = new Random(3);
        for (int i = 0; i < 197; i++) {
            text[i] = (byte) (1 + random.nextInt(2));
        }
        for (int i = 0; i < 30; i++) {
            for (int more = 0; more < Math.min(1 << extra[i], 80); more++) {
                int distance = base[i] + more;
                Bits bits = new Bits().head(true, 2).number(1, 5).number(29, 5).lengthsBy(Bits.fullLengthCode(), 19,
                    List.of(one(0), one(2), one(2), zeros(138), zeros(115), one(2), one(2), one(5), again(6),
                        again(6), again(6), again(6), again(5))).use(symbols, distances);
                bits.text(text).symbol(257).distance(i).number(more, extra[i]).symbol(256);
                String what = "distance " + i + " and " + more;
                if (distance > 197) {
                    wrong(what, bits);
                } else {
                    byte[] want = Arrays.copyOf(text, 200);
                    for (int j = 197; j < 200; j++) {
                        want[j] = want[j - distance];
                    }
                    gives(what, bits, want);
                }
            }
        }
    }

    private static int[] lengths(int n, int... pairs) {
        int[] all = new int[n];
        for (int i = 0; i < pairs.length; i += 2) {
            all[pairs[i]] = pairs[i + 1];
        }
        return all;
    }

    private static void ownCodes() {
        gives("two words", new Bits().own(true, lengths(257, 65, 1, 256, 1), lengths(1))
            .symbol(65).symbol(65).symbol(256), Due.text("AA"));
        gives("one word", new Bits().own(true, lengths(257, 256, 1), lengths(1, 0, 1)).symbol(256), new byte[0]);
        wrong("no word", new Bits().own(true, lengths(257, 256, 1), lengths(1)).raw("1").raw("0".repeat(20)));
        wrong("no words at all", new Bits().own(true, lengths(257), lengths(1)).raw("0".repeat(30)));
        wrong("no end", new Bits().own(true, lengths(257, 65, 1), lengths(1)).symbol(65).raw("0".repeat(30)));
        gives("one distance", new Bits().own(true, lengths(258, 65, 2, 256, 2, 257, 2), lengths(1, 0, 1))
            .symbol(65).symbol(257).distance(0).symbol(256), Due.text("AAAA"));
        wrong("no distances", new Bits().own(true, lengths(258, 65, 2, 256, 2, 257, 2), lengths(1))
            .symbol(65).symbol(257).raw("0").symbol(256).raw("0".repeat(20)));
        gives("words of 15 bits", new Bits().own(true, lengths(257, 1, 1, 2, 2, 3, 3, 4, 4, 5, 5, 6, 6, 7, 7, 8, 8,
            9, 9, 10, 10, 11, 11, 12, 12, 13, 13, 14, 14, 15, 15, 256, 15), lengths(1))
            .text(new byte[] {15, 1, 14, 13, 2}).symbol(256), new byte[] {15, 1, 14, 13, 2});
        gives("288 symbols, 32 distances", new Bits().own(true, lengths(288, 7, 2, 256, 2, 286, 2, 287, 2),
            lengths(32, 0, 2, 30, 2, 31, 2)).symbol(7).symbol(256), new byte[] {7});
        wrong("286 by an own code", new Bits().own(true, lengths(288, 7, 2, 256, 2, 286, 2, 287, 2),
            lengths(32, 0, 2, 30, 2, 31, 2)).symbol(7).symbol(286).distance(0).symbol(256));
        wrong("distance 30 by an own code", new Bits().own(true, lengths(288, 7, 2, 256, 2, 257, 2, 287, 2),
            lengths(32, 0, 2, 30, 2, 31, 2)).symbol(7).symbol(257).distance(30).number(0, 14).symbol(256));
        gives("own, then fixed", new Bits().own(false, lengths(257, 65, 1, 256, 1), lengths(1)).symbol(65)
            .symbol(256).fixed(true).symbol(65).symbol(256), Due.text("AA"));
        gives("own, then another", new Bits().own(false, lengths(257, 65, 1, 256, 1), lengths(1)).symbol(65)
            .symbol(256).own(true, lengths(257, 66, 3, 256, 2), lengths(1)).symbol(66).symbol(256),
            Due.text("AB"));
        int[] long15 = lengths(257, 1, 1, 2, 2, 3, 3, 4, 4, 5, 5, 6, 6, 7, 7, 8, 8, 9, 9, 10, 10, 11, 11, 12, 12, 13, 13,
            14, 14, 15, 15, 256, 15);
        gives("words of 15 bits twice", new Bits().own(false, long15, lengths(1)).symbol(15).symbol(256)
            .own(true, long15, lengths(1)).symbol(14).symbol(256), new byte[] {15, 14});
        gives("less lengths are told, the others are 0", new Bits().head(true, 2).number(0, 5).number(0, 5)
            .lengthsBy(lengths(19, 0, 2, 8, 2, 18, 1), 5, List.of(new int[] {18, 127, 7}, new int[] {18, 107, 7},
            new int[] {8, 0, 0}, new int[] {0, 0, 0})).use(lengths(257, 256, 8), lengths(1)).symbol(256),
            new byte[0]);
    }

    private static void wrongCodes() {
        wrong("symbols: three of length 1", new Bits().own(true, lengths(257, 1, 1, 2, 1, 256, 1), lengths(1))
            .raw("0".repeat(40)));
        wrong("symbols: one word too many of 15", new Bits().own(true, lengths(257, 1, 1, 2, 1, 256, 15), lengths(1))
            .raw("0".repeat(40)));
        wrong("distances: three of length 1, not used", new Bits().own(true, lengths(257, 1, 1, 256, 1),
            lengths(3, 0, 1, 1, 1, 2, 1)).symbol(1).symbol(256));
        gives("distances: two of length 1, not used", new Bits().own(true, lengths(257, 1, 1, 256, 1),
            lengths(3, 0, 1, 1, 1)).symbol(1).symbol(256), new byte[] {1});
        int[] code = Bits.fullLengthCode();
        code[18] = 4;
        List<int[]> row = new ArrayList<>();
        for (int i = 0; i < 258; i++) {
            row.add(new int[] {i >= 255 && i < 257 ? 1 : 0, 0, 0});
        }
        wrong("lengths: a word too many", new Bits().head(true, 2).number(0, 5).number(0, 5)
            .lengthsBy(code, 19, row).use(lengths(257, 255, 1, 256, 1), lengths(1)).symbol(256));
        code[18] = 0;
        gives("lengths: words are free", new Bits().head(true, 2).number(0, 5).number(0, 5)
            .lengthsBy(code, 19, row).use(lengths(257, 255, 1, 256, 1), lengths(1)).symbol(256), new byte[0]);
        wrong("lengths: no words", new Bits().head(true, 2).number(0, 5).number(0, 5)
            .lengthsBy(new int[19], 19, new ArrayList<>()).raw("0".repeat(400)));
        wrong("lengths: no word", new Bits().head(true, 2).number(0, 5).number(0, 5)
            .lengthsBy(lengths(19, 0, 1), 19, new ArrayList<>()).raw("1".repeat(400)));
    }

    /** A block of kind 2 of 257 symbols and so many distances by a row of lengths. */
    private static Bits byRow(int distances, int[]... row) {
        return new Bits().head(true, 2).number(0, 5).number(distances - 1, 5)
            .lengthsBy(Bits.fullLengthCode(), 19, Arrays.asList(row));
    }

    private static int[] zeros(int n) {
        return new int[] {18, n - 11, 7};
    }

    private static int[] few(int n) {
        return new int[] {17, n - 3, 3};
    }

    private static int[] again(int n) {
        return new int[] {16, n - 3, 2};
    }

    private static int[] one(int length) {
        return new int[] {length, 0, 0};
    }

    private static void rowsOfLengths() {
        int[] ends = lengths(257, 253, 3, 254, 3, 255, 3, 256, 3);
        gives("again", byRow(1, zeros(138), zeros(115), one(3), again(3), one(0)).use(ends, lengths(1))
            .symbol(254).symbol(256), new byte[] {(byte) 254});
        int[] seven = lengths(257, 250, 3, 251, 3, 252, 3, 253, 3, 254, 3, 255, 3, 256, 3);
        gives("again 6", byRow(1, zeros(138), zeros(112), one(3), again(6), one(0)).use(seven, lengths(1))
            .symbol(250).symbol(256), new byte[] {(byte) 250});
        gives("again goes on with the distances", byRow(3, zeros(138), zeros(117), one(2), one(2), again(3))
            .use(lengths(257, 255, 2, 256, 2), lengths(3, 0, 2, 1, 2, 2, 2)).symbol(255).symbol(256),
            new byte[] {-1});
        gives("again of 0", byRow(1, zeros(138), zeros(113), one(0), again(3), one(1), one(1), one(0))
            .use(lengths(257, 255, 1, 256, 1), lengths(1)).symbol(255).symbol(256), new byte[] {-1});
        gives("again of what 17 gave", byRow(1, zeros(138), zeros(109), few(3), again(5), one(1), one(1), one(0))
            .use(lengths(257, 255, 1, 256, 1), lengths(1)).symbol(255).symbol(256), new byte[] {-1});
        gives("few 3 and few 10", byRow(1, zeros(138), zeros(104), few(10), few(3), one(1), one(1), one(0))
            .use(lengths(257, 255, 1, 256, 1), lengths(1)).symbol(255).symbol(256), new byte[] {-1});
        gives("zeros 11", byRow(1, zeros(138), zeros(106), zeros(11), one(1), one(1), one(0))
            .use(lengths(257, 255, 1, 256, 1), lengths(1)).symbol(255).symbol(256), new byte[] {-1});
        gives("zeros over the distances", byRow(12, zeros(138), zeros(117), one(1), one(1), zeros(12))
            .use(lengths(257, 255, 1, 256, 1), lengths(12)).symbol(255).symbol(256), new byte[] {-1});
        wrong("again first", byRow(1, again(3), zeros(138), zeros(112), one(3), one(3), one(3), one(3), one(0))
            .raw("0".repeat(40)));
        wrong("again beyond the row", byRow(1, zeros(138), zeros(117), one(2), one(2), again(3))
            .use(lengths(257, 255, 2, 256, 2), lengths(1, 0, 2)).symbol(256));
        wrong("few beyond the row", byRow(2, zeros(138), zeros(117), one(2), one(2), few(3))
            .use(lengths(257, 255, 2, 256, 2), lengths(1)).symbol(256));
        wrong("zeros beyond the row", byRow(10, zeros(138), zeros(117), one(2), one(2), zeros(11))
            .use(lengths(257, 255, 2, 256, 2), lengths(1)).symbol(256));
        wrong("zeros beyond the longest row", new Bits().head(true, 2).number(31, 5).number(31, 5)
            .lengthsBy(Bits.fullLengthCode(), 19, List.of(zeros(138), zeros(118), one(1), zeros(62), zeros(138)))
            .raw("0".repeat(40)));
        wrong("again beyond the longest row", new Bits().head(true, 2).number(31, 5).number(31, 5)
            .lengthsBy(Bits.fullLengthCode(), 19, List.of(zeros(138), zeros(118), one(1), zeros(62), again(6)))
            .raw("0".repeat(40)));
        Bits cut = byRow(1, zeros(138), zeros(117), one(1));
        wrong("the row lacks", cut);
    }

    private static void ends() {
        wrong("none", new byte[0]);
        wrong("one bit too few", new byte[] {3});
        byte[] oneBitOver = new Bits().fixed(true).text(times(255, 7)).symbol(256).bytes();
        gives("73 bits", oneBitOver, times(255, 7));
        wrong("72 of 73 bits", Arrays.copyOf(oneBitOver, 9));
        gives("just the end", new byte[] {3, 0}, new byte[0]);
        gives("bits behind are any", new byte[] {3, (byte) 0xfc}, new byte[0]);
        wrong("a byte behind", new byte[] {3, 0, 0});
        wrong("not the last block", new byte[] {2, 0});
        gives("many empty blocks", new Bits().fixed(false).symbol(256).fixed(false).symbol(256).fixed(true)
            .symbol(256), new byte[0]);
        Bits all = new Bits().fixed(true).text(Due.text("abcd")).symbol(269).number(3, 2).distance(6).number(0, 2);
        wrong("distance beyond, bits lack", all);
        byte[] right = new Bits().own(true, lengths(258, 65, 2, 256, 2, 257, 2), lengths(5, 4, 1))
            .text(Due.text("AAAAAA")).symbol(257).distance(4).number(1, 1).symbol(256).bytes();
        gives("right", right, Due.text("AAAAAAAAA"));
        for (int n = 0; n < right.length; n++) {
            wrong("cut to " + n, Arrays.copyOf(right, n));
        }
    }

    /** Bits that lack behind the last byte that the buffer can have. */
    private static void lackAtTheLimit() {
        wrong("a block lacks", new Bits().plain(false, some(195)));
        for (int kind = 0; kind < 4; kind++) {
            wrong("kind " + kind, new Bits().plain(false, some(194)).head(true, kind));
            wrong("kind " + kind + " in ones", new Bits().plain(false, some(194)).head(true, kind).align('1'));
            for (int more = 1; more < 20; more++) {
                wrong("kind " + kind + " and " + more + " bytes", new Bits().plain(false, some(194 - more))
                    .head(true, kind).align('0').raw("0".repeat(8 * more - 8)).raw("1".repeat(8)));
                wrong("kind " + kind + " and " + more + " ones", new Bits().plain(false, some(194 - more))
                    .head(true, kind).align('1').raw("1".repeat(8 * more)));
            }
        }
        Random random = new Random(9);
        for (int round = 0; round < 2000; round++) {
            byte[] bytes = new byte[200];
            random.nextBytes(bytes);
            bytes[0] = (byte) (bytes[0] & ~7 | round % 8);
            Zip x = Due.holding(bytes);
            try {
                due.is("unpack gives out at most 200", x.unpack() <= 200);
            } catch (ArithmeticException e) {
                due.sameBytes("a throw leaves the buffer", Due.buffer(x), bytes);
            }
        }
    }

    private static void againstTheLibrary() {
        Random random = new Random(5);
        for (int round = 0; round < 300; round++) {
            byte[] bytes = new byte[random.nextInt(201)];
            int kinds = 1 + random.nextInt(30);
            for (int i = 0; i < bytes.length; i++) {
                bytes[i] = (byte) (random.nextInt(kinds) * random.nextInt(kinds));
            }
            byte[] packed = Bits.deflated(bytes, random.nextInt(10), random.nextInt(3));
            if (packed.length <= 200) {
                gives("the library's packing", packed, bytes);
            }
        }
    }
}
