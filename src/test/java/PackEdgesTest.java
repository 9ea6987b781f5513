import java.util.Arrays;

/** The boundary cases of packing and of promise 8, sentence by sentence. */
public final class PackEdgesTest {
    private static final Due due = new Due();
    private static final int[] LENGTHS = {3, 4, 5, 6, 7, 8, 9, 10, 11, 13, 15, 17, 19, 23, 27, 31, 35, 43, 51, 59, 67, 83,
        99, 115, 131, 163, 195, 227, 258};
    private static final int[] LENGTH_BITS = {0, 0, 0, 0, 0, 0, 0, 0, 1, 1, 1, 1, 2, 2, 2, 2, 3, 3, 3, 3, 4, 4, 4, 4, 5, 5,
        5, 5, 0};
    private static final int[] DISTANCES = {1, 2, 3, 4, 5, 7, 9, 13, 17, 25, 33, 49, 65, 97, 129, 193};
    private static final int[] DISTANCE_BITS = {0, 0, 0, 0, 1, 1, 2, 2, 3, 3, 4, 4, 5, 5, 6, 6};

    public static void main(String[] args) {
        oneBlock();
        bytesOfEitherLength();
        threeBytesOrMore();
        fromTheFirstByteOn();
        upToTheEnd();
        theGreatestLength();
        theLeastDistance();
        everyLength();
        everyDistance();
        bitsUpToTheEndOfTheByte();
        moreThan200();
        due.finish();
    }

    /** The packed bytes, by pack and, as those may be more than 200, by an entry. */
    private static void packs(String what, byte[] bytes, Bits bits) {
        byte[] want = bits.bytes();
        Zip x = Due.holding(bytes);
        if (want.length <= 200) {
            due.answers(what, want.length, x::pack);
            due.sameBytes(what, Due.buffer(x), want);
            due.answers(what + ", and back", bytes.length, x::unpack);
        } else {
            due.throwsIt(what, IllegalStateException.class, x::pack);
        }
        due.sameBytes(what + ", and back", Due.buffer(x), bytes);
        x.create();
        x.add(97, 8, false);
        due.same(what + ", in an entry", x.about(0, 4), want.length);
        Zip y = Due.holding(bytes);
        y.create();
        y.add(97, 8, false);
        due.sameBytes(what + ", in an entry", Arrays.copyOfRange(Due.file(y), 31, 31 + want.length), want);
        due.same(what + ", in an entry", y.check(), 0);
    }

    private static Bits begin() {
        return new Bits().fixed(true);
    }

    private static Bits repeat(Bits bits, int length, int distance) {
        int i = 28;
        while (LENGTHS[i] > length) {
            i--;
        }
        bits.symbol(257 + i).number(length - LENGTHS[i], LENGTH_BITS[i]);
        int j = 15;
        while (DISTANCES[j] > distance) {
            j--;
        }
        return bits.distance(j).number(distance - DISTANCES[j], DISTANCE_BITS[j]);
    }

    private static byte[] joined(byte[]... parts) {
        Bytes b = new Bytes();
        for (byte[] part : parts) {
            b.raw(part);
        }
        return b.all();
    }

    private static void oneBlock() {
        due.sentence("TO PACK: one block, of kind 1; in the end 256");
        packs("nothing", new byte[0], begin().symbol(256));
        Zip x = new Zip();
        x.pack();
        due.sameBytes("nothing", Due.buffer(x), new byte[] {3, 0});
        packs("one byte", new byte[] {5}, begin().symbol(5).symbol(256));
    }

    private static void bytesOfEitherLength() {
        due.sentence("lengths of symbols 0 .. 287 are 8 up to 143, 9 up to 255");
        for (int b : new int[] {0, 1, 142, 143, 144, 145, 254, 255}) {
            packs("byte " + b, new byte[] {(byte) b}, begin().symbol(b).symbol(256));
            packs("bytes " + b, new byte[] {(byte) b, (byte) b}, begin().symbol(b).symbol(b).symbol(256));
        }
    }

    private static void threeBytesOrMore() {
        due.sentence("if some repeat of 3 bytes or more can stand here");
        packs("2", Due.text("ab-ab"), begin().text(Due.text("ab-ab")).symbol(256));
        packs("3", Due.text("abc-abc"), repeat(begin().text(Due.text("abc-")), 3, 4).symbol(256));
        packs("2 into itself", Due.text("aaa"), begin().text(Due.text("aaa")).symbol(256));
        packs("3 into itself", Due.text("aaaa"), repeat(begin().text(Due.text("a")), 3, 1).symbol(256));
        packs("2 at a distance of 2", Due.text("abab"), begin().text(Due.text("abab")).symbol(256));
        packs("3 at a distance of 2", Due.text("ababa"), repeat(begin().text(Due.text("ab")), 3, 2).symbol(256));
        packs("2, and another byte behind", Due.text("abcabd"), begin().text(Due.text("abcabd")).symbol(256));
        packs("3, and another byte behind", Due.text("abcdabce"),
            repeat(begin().text(Due.text("abcd")), 3, 4).symbol('e').symbol(256));
    }

    private static void fromTheFirstByteOn() {
        due.sentence("from the first byte on");
        packs("no repeat is before the second byte", Due.text("aaaaaaa"), repeat(begin().symbol('a'), 6, 1).symbol(256));
        packs("a repeat may begin with the first byte", Due.text("abcZabc"),
            repeat(begin().text(Due.text("abcZ")), 3, 4).symbol(256));
        packs("a longer one at the next byte is not waited for", Due.text("abcbcdefabcdef"),
            repeat(repeat(begin().text(Due.text("abcbcdef")), 3, 8), 3, 6).symbol(256));
        packs("behind a repeat it goes on with the next byte", Due.text("abcabcXabc"),
            repeat(repeat(begin().text(Due.text("abc")), 3, 3).symbol('X'), 3, 4).symbol(256));
    }

    private static void upToTheEnd() {
        due.sentence("of length L up to 258, and up to the end");
        packs("all of 200", Due.times(9, 200), repeat(begin().symbol(9), 199, 1).symbol(256));
        packs("all of 199", Due.times(9, 199), repeat(begin().symbol(9), 198, 1).symbol(256));
        packs("not beyond the end", Due.text("abcdefabc"), repeat(begin().text(Due.text("abcdef")), 3, 6).symbol(256));
        packs("two bytes are left", Due.text("abcdefab"), begin().text(Due.text("abcdefab")).symbol(256));
        // What the row still has of a longer content must not be found behind the end.
        Zip x = Due.holding(Due.text("abcdabcd"));
        x.clear();
        x.give(0x616263646162L, 6);
        x.pack();
        due.sameBytes("not beyond the end", Due.buffer(x), begin().text(Due.text("abcdab")).symbol(256).bytes());
    }

    private static void theGreatestLength() {
        due.sentence("the one with the greatest L");
        packs("farther, but longer by one", Due.text("abcd1abc2abcd"),
            repeat(repeat(begin().text(Due.text("abcd1")), 3, 5).symbol('2'), 4, 9).symbol(256));
        packs("nearer and longer by one", Due.text("abc1abcd2abcd"),
            repeat(repeat(begin().text(Due.text("abc1")), 3, 4).text(Due.text("d2")), 4, 5).symbol(256));
        packs("the farthest, of three", Due.text("abcde1abcd2abc3abcde"),
            repeat(repeat(repeat(begin().text(Due.text("abcde1")), 4, 6).symbol('2'), 3, 5).symbol('3'), 5, 15)
                .symbol(256));
    }

    private static void theLeastDistance() {
        due.sentence("and of these with the least distance");
        packs("of two", Due.text("abc1abc2abc"),
            repeat(repeat(begin().text(Due.text("abc1")), 3, 4).symbol('2'), 3, 4).symbol(256));
        packs("of all", Due.times(200, 50), repeat(begin().symbol(200), 49, 1).symbol(256));
        packs("of 2 and 4", Due.text("abababab"), repeat(begin().text(Due.text("ab")), 6, 2).symbol(256));
    }

    private static void everyLength() {
        due.sentence("257 .. 264 is a REPEAT of length 3 .. 10; (4 + j) * 2 to the e, and 3, and what the next e bits say");
        for (int length = 3; length <= 199; length++) {
            packs("length " + length, Due.times(5, length + 1), repeat(begin().symbol(5), length, 1).symbol(256));
        }
        byte[] four = Due.text("abcd".repeat(50));
        for (int length = 3; length <= 196; length++) {
            packs("length " + length + " at a distance of 4", Arrays.copyOf(four, length + 4),
                repeat(begin().text(Arrays.copyOf(four, 4)), length, 4).symbol(256));
        }
        packs("length 2", Due.times(5, 3), begin().symbol(5).symbol(5).symbol(5).symbol(256));
    }

    private static void everyDistance() {
        due.sentence("0 .. 3 is 1 .. 4; 2 e + 2 + j is (2 + j) * 2 to the e, and 1, and what the next e bits say");
        for (int distance = 3; distance <= 197; distance++) {
            byte[] before = new byte[distance];
            for (int i = 0; i < distance; i++) {
                before[i] = (byte) i;
            }
            byte[] all = joined(before, Arrays.copyOf(before, 3));
            packs("distance " + distance, all, repeat(begin().text(before), 3, distance).symbol(256));
        }
    }

    private static void bitsUpToTheEndOfTheByte() {
        due.sentence("and bits 0 up to the end of the byte");
        for (int nines = 0; nines <= 16; nines++) {
            byte[] bytes = Due.noRepeats(144, nines);
            Bits bits = begin().text(bytes).symbol(256);
            due.same("how many bits", bits.size(), 10 + 9 * nines);
            packs(bits.size() % 8 + " bits in the last byte", bytes, bits);
        }
    }

    private static void moreThan200() {
        due.sentence("The buffer is packed: how many bytes it has then. IllegalStateException: there would be more than 200");
        // 3 bits, 8 for each low byte, 9 for each high one, 7 for the end.
        for (int high = 60; high <= 80; high++) {
            for (int low = 110; low <= 112; low++) {
                byte[] bytes = joined(Due.noRepeats(0, low), Due.noRepeats(144, high));
                int packed = (3 + 8 * low + 9 * high + 7 + 7) / 8;
                Zip x = Due.holding(bytes);
                if (packed <= 200) {
                    due.answers(low + " and " + high, packed, x::pack);
                    due.same("held", x.held(), packed);
                } else {
                    due.throwsIt(low + " and " + high, IllegalStateException.class, x::pack);
                    due.sameBytes("a throw leaves the buffer", Due.buffer(x), bytes);
                }
            }
        }
        byte[] just = joined(Due.noRepeats(0, 111), Due.noRepeats(144, 78));
        due.same("1600 bits", 3 + 8 * 111 + 9 * 78 + 7, 1600);
        due.answers("1600 bits", 200, () -> Due.holding(just).pack());
        byte[] over = joined(Due.noRepeats(0, 110), Due.noRepeats(144, 79));
        due.same("1601 bits", 3 + 8 * 110 + 9 * 79 + 7, 1601);
        new Refusal(due, () -> Due.holding(over)).of("1601 bits", IllegalStateException.class, Zip::pack);
        byte[] most = Due.noRepeats(144, 200);
        packs("most bits that can be", most, begin().text(most).symbol(256));
        new Refusal(due, () -> Due.holding(most)).of("most bits", IllegalStateException.class, Zip::pack);
        new Refusal(due, () -> {
            Zip x = Due.holding(Due.text("some"));
            x.create();
            x.add(97, 0, true);
            Due.hold(x, most);
            x.wide(true);
            return x;
        }).of("most bits beside an archive", IllegalStateException.class, Zip::pack);
    }
}
