import java.util.Random;
import java.util.zip.DataFormatException;
import java.util.zip.Inflater;

/** Promise 8: pack. */
public final class PackTest {
    private static final Due due = new Due();

    public static void main(String[] args) throws DataFormatException {
        small();
        repeats();
        everyLengthAndDistance();
        limit();
        againstTheLibrary();
        due.finish();
    }

    private static void packs(String what, byte[] bytes, Bits want) {
        Zip x = Due.holding(bytes);
        byte[] packed = want.bytes();
        due.answers(what, packed.length, x::pack);
        due.sameBytes(what, Due.buffer(x), packed);
        due.answers(what + ", and back", bytes.length, x::unpack);
        due.sameBytes(what + ", and back", Due.buffer(x), bytes);
    }

    private static void small() {
        packs("none", new byte[0], new Bits().fixed(true).symbol(256));
        packs("one", new byte[] {-1}, new Bits().fixed(true).symbol(255).symbol(256));
        packs("edges of lengths", new byte[] {0, (byte) 143, (byte) 144, -1},
            new Bits().fixed(true).symbol(0).symbol(143).symbol(144).symbol(255).symbol(256));
        packs("aaa", Due.text("aaa"), new Bits().fixed(true).text(Due.text("aaa")).symbol(256));
        packs("abab", Due.text("abab"), new Bits().fixed(true).text(Due.text("abab")).symbol(256));
    }

    private static void repeats() {
        packs("aaaa", Due.text("aaaa"),
            new Bits().fixed(true).symbol('a').symbol(257).distance(0).symbol(256));
        packs("abcabc", Due.text("abcabc"),
            new Bits().fixed(true).text(Due.text("abc")).symbol(257).distance(2).symbol(256));
        packs("the least distance", Due.text("abcxabcyabc"),
            new Bits().fixed(true).text(Due.text("abcx")).symbol(257).distance(3)
                .symbol('y').symbol(257).distance(3).symbol(256));
        packs("the greatest length is before the least distance", Due.text("abcdxabcyabcd"),
            new Bits().fixed(true).text(Due.text("abcdx")).symbol(257).distance(4).number(0, 1)
                .symbol('y').symbol(258).distance(6).number(0, 2).symbol(256));
        packs("no waiting for a longer one", Due.text("abcZbcdefYabcdef"),
            new Bits().fixed(true).text(Due.text("abcZbcdefY")).symbol(257).distance(6).number(1, 2)
                .symbol(257).distance(5).number(0, 1).symbol(256));
        packs("a repeat may reach into itself", Due.text("abababa"),
            new Bits().fixed(true).text(Due.text("ab")).symbol(259).distance(1).symbol(256));
    }

    private static void everyLengthAndDistance() {
        for (int length = 3; length <= 199; length++) {
            byte[] bytes = new byte[length + 1];
            java.util.Arrays.fill(bytes, (byte) 5);
            Bits want = new Bits().fixed(true).symbol(5);
            packs("length " + length, bytes, length(want, length).distance(0).symbol(256));
        }
        for (int d = 3; d <= 197; d++) {
            byte[] bytes = new byte[d + 3];
            for (int i = 0; i < d; i++) {
                bytes[i] = (byte) i;
            }
            bytes[d + 1] = 1;
            bytes[d + 2] = 2;
            Zip x = Due.holding(bytes);
            Bits want = new Bits().fixed(true).text(java.util.Arrays.copyOf(bytes, d)).symbol(257);
            byte[] packed = distance(want, d).symbol(256).bytes();
            if (packed.length <= 200) {
                x.pack();
                due.sameBytes("distance " + d, Due.buffer(x), packed);
            }
        }
    }

    // By the table of the format, not by the document's rule.
    private static Bits length(Bits bits, int length) {
        int[] base = {3, 4, 5, 6, 7, 8, 9, 10, 11, 13, 15, 17, 19, 23, 27, 31, 35, 43, 51, 59, 67, 83, 99,
            115, 131, 163, 195, 227, 258};
        int[] extra = {0, 0, 0, 0, 0, 0, 0, 0, 1, 1, 1, 1, 2, 2, 2, 2, 3, 3, 3, 3, 4, 4, 4, 4, 5, 5, 5, 5, 0};
        int i = 28;
        while (base[i] > length) {
            i--;
        }
        return bits.symbol(257 + i).number(length - base[i], extra[i]);
    }

    private static Bits distance(Bits bits, int distance) {
        int[] base = {1, 2, 3, 4, 5, 7, 9, 13, 17, 25, 33, 49, 65, 97, 129, 193};
        int[] extra = {0, 0, 0, 0, 1, 1, 2, 2, 3, 3, 4, 4, 5, 5, 6, 6};
        int i = 15;
        while (base[i] > distance) {
            i--;
        }
        return bits.distance(i).number(distance - base[i], extra[i]);
    }

    /** Bytes of which none is a repeat: n below 144 and m above. */
    private static byte[] plain(int n, int m) {
        byte[] bytes = new byte[n + m];
        for (int i = 0; i < n; i++) {
            bytes[i] = (byte) (i < 144 ? i : 143 - 7 * (i - 144));
        }
        for (int i = 0; i < m; i++) {
            bytes[n + i] = (byte) (i < 112 ? 144 + i : 255 - 5 * (i - 112));
        }
        return bytes;
    }

    private static void limit() {
        // 3 + 8 n + 9 m + 7 bits: 1600 just fill 200 bytes.
        Zip just = Due.holding(plain(108, 74));
        int bits = 3 + 8 * 108 + 9 * 74 + 7;
        due.answers("below the limit", (bits + 7) / 8, just::pack);
        Zip full = Due.holding(plain(120, 70));
        due.same("1600 bits", 3 + 8 * 120 + 9 * 70 + 7, 1600);
        due.answers("200 bytes", 200, full::pack);
        due.same("200 held", full.held(), 200);
        Zip over = Due.holding(plain(119, 71));
        due.same("1601 bits", 3 + 8 * 119 + 9 * 71 + 7, 1601);
        byte[] before = Due.buffer(over);
        due.throwsIt("201 bytes", IllegalStateException.class, over::pack);
        due.sameBytes("a throw leaves the buffer", Due.buffer(over), before);
        Zip most = Due.holding(plain(88, 112));
        due.throwsIt("most bytes", IllegalStateException.class, most::pack);
        due.same("a throw leaves the buffer", most.held(), 200);
    }

    private static void againstTheLibrary() throws DataFormatException {
        Random random = new Random(11);
        for (int round = 0; round < 400; round++) {
            byte[] bytes = new byte[random.nextInt(201)];
            int kinds = 1 + random.nextInt(20);
            for (int i = 0; i < bytes.length; i++) {
                bytes[i] = (byte) random.nextInt(kinds);
            }
            Zip x = Due.holding(bytes);
            int n = x.pack();
            due.same("pack tells what it holds", x.held(), n);
            Inflater inflater = new Inflater(true);
            inflater.setInput(Due.buffer(x));
            byte[] back = new byte[300];
            int m = inflater.inflate(back);
            due.is("the library ends too", inflater.finished() && inflater.getRemaining() == 0);
            due.sameBytes("the library's answer", java.util.Arrays.copyOf(back, m), bytes);
            inflater.end();
            due.same("unpack", x.unpack(), bytes.length);
            due.sameBytes("unpack", Due.buffer(x), bytes);
        }
    }
}
