import java.io.ByteArrayOutputStream;
import java.util.ArrayList;
import java.util.List;
import java.util.TreeMap;
import java.util.zip.Deflater;

/** Writes packed bytes bit by bit, right or wrong ones. */
final class Bits {
    private static final int[] ORDER = {16, 17, 18, 0, 8, 7, 9, 6, 10, 5, 11, 4, 12, 3, 13, 2, 14, 1, 15};

    private final StringBuilder bits = new StringBuilder();
    private String[] symbolWords = words(fixedSymbols());
    private String[] distanceWords = words(fixedDistances());

    static int[] fixedSymbols() {
        int[] lengths = new int[288];
        for (int s = 0; s < 288; s++) {
            lengths[s] = s <= 143 ? 8 : s <= 255 ? 9 : s <= 279 ? 7 : 8;
        }
        return lengths;
    }

    static int[] fixedDistances() {
        int[] lengths = new int[32];
        java.util.Arrays.fill(lengths, 5);
        return lengths;
    }

    /** The words of a code, as texts of 0 and 1; null where there is none. */
    static String[] words(int[] lengths) {
        TreeMap<Integer, Integer> order = new TreeMap<>();
        for (int s = 0; s < lengths.length; s++) {
            if (lengths[s] > 0) {
                order.put(lengths[s] * 1000 + s, s);
            }
        }
        String[] words = new String[lengths.length];
        long word = -1;
        int before = 0;
        for (int s : order.values()) {
            word = word < 0 ? 0 : word + 1 << lengths[s] - before;
            before = lengths[s];
            String text = Long.toBinaryString(word);
            words[s] = "0".repeat(Math.max(0, before - text.length())) + text;
        }
        return words;
    }

    Bits number(int value, int n) {
        for (int i = 0; i < n; i++) {
            bits.append((value >> i & 1) == 1 ? '1' : '0');
        }
        return this;
    }

    Bits raw(String more) {
        bits.append(more);
        return this;
    }

    int size() {
        return bits.length();
    }

    Bits align(char bit) {
        while (bits.length() % 8 != 0) {
            bits.append(bit);
        }
        return this;
    }

    Bits head(boolean last, int kind) {
        return number(last ? 1 : 0, 1).number(kind, 2);
    }

    Bits plain(boolean last, byte[] bytes) {
        head(last, 0).align('0').number(bytes.length, 16).number(65535 - bytes.length, 16);
        for (byte b : bytes) {
            number(b & 255, 8);
        }
        return this;
    }

    Bits fixed(boolean last) {
        symbolWords = words(fixedSymbols());
        distanceWords = words(fixedDistances());
        return head(last, 1);
    }

    Bits symbol(int s) {
        return raw(symbolWords[s]);
    }

    Bits text(byte[] bytes) {
        for (byte b : bytes) {
            symbol(b & 255);
        }
        return this;
    }

    Bits distance(int d) {
        return raw(distanceWords[d]);
    }

    /** Begins a block of kind 2 with these lengths, told one by one but for long rows of 0. */
    Bits own(boolean last, int[] symbols, int[] distances) {
        head(last, 2).number(symbols.length - 257, 5).number(distances.length - 1, 5);
        int[] all = java.util.Arrays.copyOf(symbols, symbols.length + distances.length);
        System.arraycopy(distances, 0, all, symbols.length, distances.length);
        List<int[]> row = new ArrayList<>();
        for (int i = 0; i < all.length; i++) {
            int zeros = 0;
            while (zeros < 138 && i + zeros < all.length && all[i + zeros] == 0) {
                zeros++;
            }
            if (zeros >= 11) {
                row.add(new int[] {18, zeros - 11, 7});
                i += zeros - 1;
            } else {
                row.add(new int[] {all[i], 0, 0});
            }
        }
        lengthsBy(fullLengthCode(), 19, row);
        return use(symbols, distances);
    }

    /** From here on symbols and distances are written by these codes. */
    Bits use(int[] symbols, int[] distances) {
        symbolWords = words(symbols);
        distanceWords = words(distances);
        return this;
    }

    /** A code of the lengths in which every length has a word, and no word is free. */
    static int[] fullLengthCode() {
        int[] lengths = new int[19];
        for (int i = 0; i < 19; i++) {
            lengths[i] = i < 13 ? 4 : 5;
        }
        return lengths;
    }

    /** How many of the code's lengths are told, these, and the row: symbol, more bits, how many. */
    Bits lengthsBy(int[] code, int told, List<int[]> row) {
        number(told - 4, 4);
        for (int i = 0; i < told; i++) {
            number(code[ORDER[i]], 3);
        }
        String[] words = words(code);
        for (int[] r : row) {
            raw(words[r[0]]).number(r[1], r[2]);
        }
        return this;
    }

    /** Bytes as the library packs them. */
    static byte[] deflated(byte[] bytes, int level, int strategy) {
        Deflater deflater = new Deflater(level, true);
        deflater.setStrategy(strategy);
        deflater.setInput(bytes);
        deflater.finish();
        byte[] packed = new byte[400];
        int n = 0;
        for (int tries = 0; tries < 10 && !deflater.finished(); tries++) {
            n += deflater.deflate(packed, n, packed.length - n);
        }
        deflater.end();
        return java.util.Arrays.copyOf(packed, n);
    }

    byte[] bytes() {
        ByteArrayOutputStream out = new ByteArrayOutputStream();
        String all = bits.toString();
        for (int i = 0; i < all.length(); i += 8) {
            int b = 0;
            for (int j = 0; j < 8 && i + j < all.length(); j++) {
                b |= (all.charAt(i + j) - '0') << j;
            }
            out.write(b);
        }
        return out.toByteArray();
    }
}
