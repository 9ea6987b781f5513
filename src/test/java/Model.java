import java.util.ArrayList;
import java.util.HashMap;
import java.util.HashSet;
import java.util.List;
import java.util.Map;
import java.util.NoSuchElementException;
import java.util.Set;

/** The document once more, in the plainest form and without a thought of speed or room. */
final class Model {
    /** What is wrong, as an exception so that every rule is one line. */
    private static final class Wrong extends RuntimeException {
        private static final long serialVersionUID = 1L;
        final int code;

        Wrong(int code) {
            super("wrong by " + code);
            this.code = code;
        }
    }

    private static final class Part {
        int start;
        int end;
        String name;
        int flags;
        int method;
        int crc;
        int packedSize;
        int size;
        int offset;
    }

    private static final class Directory {
        final List<Part> parts = new ArrayList<>();
        int start;
        int remark;
    }

    private List<Integer> buffer = new ArrayList<>();
    private List<Integer> file = new ArrayList<>();
    private boolean wide;

    // ---- the buffer

    int clear() {
        int n = buffer.size();
        buffer = new ArrayList<>();
        return n;
    }

    int give(long bytes, int n) {
        return behind(buffer, bytes, n, 200);
    }

    private static int behind(List<Integer> row, long bytes, int n, int most) {
        if (n < 1 || n > 8) {
            throw new IllegalArgumentException();
        }
        if (row.size() + n > most) {
            throw new IllegalStateException();
        }
        for (int i = n - 1; i >= 0; i--) {
            row.add((int) (bytes >> 8 * i & 255));
        }
        return row.size();
    }

    int fill(int b, int n) {
        if (b < 0 || b > 255 || n < 1 || n > 200) {
            throw new IllegalArgumentException();
        }
        if (buffer.size() + n > 200) {
            throw new IllegalStateException();
        }
        for (int i = 0; i < n; i++) {
            buffer.add(b);
        }
        return buffer.size();
    }

    int held() {
        return buffer.size();
    }

    int at(int i) {
        return buffer.get(i);
    }

    int crc() {
        return Due.crcOf(array(buffer));
    }

    int pack() {
        List<Integer> packed = packed(buffer);
        if (packed.size() > 200) {
            throw new IllegalStateException();
        }
        buffer = packed;
        return buffer.size();
    }

    int unpack() {
        List<Integer> given;
        try {
            given = unpacked(buffer);
        } catch (Wrong e) {
            throw new ArithmeticException();
        }
        buffer = given;
        return buffer.size();
    }

    // ---- the archive

    void create() {
        file = new ArrayList<>();
        append(file, end(0, 0, 0, ""));
    }

    void wide(boolean is) {
        wide = is;
    }

    private Bytes.Item item(int name, int method, boolean later, int offset) {
        String text = "";
        for (int n = name; n != 0; n >>>= 8) {
            text = (char) (n & 255) + text;
        }
        Bytes.Item e = new Bytes.Item(text, 0, later, array(buffer), offset);
        if (method == 8) {
            e.method = 8;
            e.content = array(packed(buffer));
            e.packedSize = e.content.length;
            e.behindPackedSize = e.packedSize;
            e.localPackedSize = later ? 0 : e.packedSize;
        }
        return wide && !later ? e.widened() : e;
    }

    private byte[] end(int entries, int start, int size, String remark) {
        Bytes b = new Bytes().raw(new byte[start + size]);
        if (wide) {
            b.wideBefore(entries, size, start).end(65535, -1, -1, remark);
        } else {
            b.end(entries, size, start, remark);
        }
        return java.util.Arrays.copyOfRange(b.all(), start + size, b.size());
    }

    private static boolean isName(int name) {
        if (name <= 0) {
            return false;
        }
        int n = 0;
        for (int rest = name; rest != 0; rest >>>= 8) {
            int b = rest & 255;
            if (b < 33 || b > 126) {
                return false;
            }
            n++;
        }
        return n <= 3;
    }

    int add(int name, int method, boolean later) {
        Directory d = directory();
        if (!isName(name) || method != 0 && method != 8) {
            throw new IllegalArgumentException();
        }
        List<Part> others = new ArrayList<>();
        for (Part p : d.parts) {
            if (told(p.name) != name) {
                others.add(p);
            }
        }
        Bytes.Item e = item(name, method, later, d.start);
        List<Integer> next = new ArrayList<>(file.subList(0, d.start));
        append(next, new Bytes().local(e).all());
        int start = next.size();
        for (Part p : others) {
            next.addAll(file.subList(p.start, p.end));
        }
        append(next, new Bytes().part(e).all());
        return replace(next, others.size() + 1, start, d.remark);
    }

    private int replace(List<Integer> next, int entries, int start, int remark) {
        append(next, end(entries, start, next.size() - start, text(remark, file.size() - remark)));
        if (entries > 8 || next.size() > 1600) {
            throw new IllegalStateException();
        }
        file = next;
        return entries;
    }

    int remove(int name) {
        Directory d = directory();
        Part gone = find(d, name);
        List<Integer> next = new ArrayList<>(file.subList(0, d.start));
        for (Part p : d.parts) {
            if (p != gone) {
                next.addAll(file.subList(p.start, p.end));
            }
        }
        return replace(next, d.parts.size() - 1, d.start, d.remark);
    }

    int load(int name) {
        Directory d = directory();
        Part p = find(d, name);
        List<Integer> content;
        try {
            content = content(d, d.parts.indexOf(p));
        } catch (Wrong e) {
            throw new ArithmeticException();
        }
        buffer = content;
        return buffer.size();
    }

    int count() {
        return directory().parts.size();
    }

    int about(int k, int what) {
        Directory d = directory();
        if (k < 0 || k >= d.parts.size()) {
            throw new IndexOutOfBoundsException();
        }
        if (what < 0 || what > 6) {
            throw new IllegalArgumentException();
        }
        Part p = d.parts.get(k);
        return new int[] {told(p.name), p.flags, p.method, p.crc, p.packedSize, p.size, p.offset}[what];
    }

    int check() {
        Directory d;
        try {
            d = read();
        } catch (Wrong e) {
            return e.code;
        }
        for (int k = 0; k < d.parts.size(); k++) {
            try {
                content(d, k);
            } catch (Wrong e) {
                return 100 * k + e.code;
            }
        }
        return 0;
    }

    // ---- the file

    int length() {
        return file.size();
    }

    int byteAt(int k) {
        return file.get(k);
    }

    void poke(int k, int b) {
        file.get(k);
        if (b < 0 || b > 255) {
            throw new IllegalArgumentException();
        }
        file.set(k, b);
    }

    int put(long bytes, int n) {
        return behind(file, bytes, n, 1600);
    }

    void cut(int n) {
        if (n < 0 || n > file.size()) {
            throw new IllegalArgumentException();
        }
        file = new ArrayList<>(file.subList(0, n));
    }

    // ---- what is wrong

    private Directory directory() {
        try {
            return read();
        } catch (Wrong e) {
            throw new UnsupportedOperationException();
        }
    }

    private Part find(Directory d, int name) {
        for (Part p : d.parts) {
            if (told(p.name) == name) {
                return p;
            }
        }
        throw new NoSuchElementException();
    }

    private static int told(String name) {
        return Due.name(name);
    }

    private static void need(boolean right, int code) {
        if (!right) {
            throw new Wrong(code);
        }
    }

    /** A number of the file; without a sign, but for those of eight bytes above 2 to the 63. */
    private long number(int place, int n) {
        long x = 0;
        for (int i = 0; i < n; i++) {
            x += (long) file.get(place + i) << 8 * i;
        }
        return x;
    }

    private static boolean within(long x, long most) {
        return Long.compareUnsigned(x, most) <= 0;
    }

    private Directory read() {
        int end = -1;
        for (int p = 0; p + 22 <= file.size(); p++) {
            if (number(p, 4) == 0x06054b50 && p + 22 + number(p + 20, 2) == file.size()) {
                end = p;
            }
        }
        need(end >= 0, 1);
        Directory d = new Directory();
        d.remark = end + 22;
        long entries = number(end + 8, 2);
        long again = number(end + 10, 2);
        long size = number(end + 12, 4);
        long offset = number(end + 16, 4);
        if (offset == 0xffffffffL) {
            need(end >= 76, 2);
            need(number(end - 20, 4) == 0x07064b50 && number(end - 12, 8) == end - 76, 2);
            end -= 76;
            need(number(end, 4) == 0x06064b50 && number(end + 4, 8) == 44, 2);
            entries = number(end + 24, 8);
            again = number(end + 32, 8);
            size = number(end + 40, 8);
            offset = number(end + 48, 8);
        }
        need(entries == again && within(entries, 8), 2);
        need(within(offset, end) && within(size, end) && offset + size == end, 2);
        d.start = (int) offset;
        int place = d.start;
        Set<String> names = new HashSet<>();
        for (int k = 0; k < entries; k++) {
            Part p = part(place, end, d.start);
            need(names.add(p.name), 2);
            d.parts.add(p);
            place = p.end;
        }
        need(place == end, 2);
        return d;
    }

    private Part part(int place, int end, int start) {
        need(place + 46 <= end && number(place, 4) == 0x02014b50, 2);
        Part p = new Part();
        p.start = place;
        int name = (int) number(place + 28, 2);
        int extras = (int) number(place + 30, 2);
        p.end = place + 46 + name + extras + (int) number(place + 32, 2);
        need(p.end <= end, 2);
        p.name = text(place + 46, name);
        need(p.name.matches("[!-~]{1,3}"), 2);
        p.flags = (int) number(place + 8, 2);
        p.method = (int) number(place + 10, 2);
        need((p.flags == 0 || p.flags == 8) && (p.method == 0 || p.method == 8), 2);
        p.crc = (int) number(place + 16, 4);
        List<Long> told = wides(place + 46 + name, extras, 2);
        long[] numbers = {number(place + 24, 4), number(place + 20, 4), number(place + 42, 4)};
        for (int i = 0; i < 3; i++) {
            if (numbers[i] == 0xffffffffL) {
                need(!told.isEmpty(), 2);
                numbers[i] = told.remove(0);
            }
        }
        need(within(numbers[0], 200) && within(numbers[1], start) && within(numbers[2], start), 2);
        p.size = (int) numbers[0];
        p.packedSize = (int) numbers[1];
        p.offset = (int) numbers[2];
        return p;
    }

    private String text(int place, int n) {
        StringBuilder b = new StringBuilder();
        for (int i = 0; i < n; i++) {
            b.append((char) (int) file.get(place + i));
        }
        return b.toString();
    }

    /** The numbers of eight bytes in the first record of kind 1. */
    private List<Long> wides(int place, int n, int code) {
        List<Long> told = null;
        int i = 0;
        while (i < n) {
            need(i + 4 <= n, code);
            int bytes = (int) number(place + i + 2, 2);
            need(i + 4 + bytes <= n, code);
            if (number(place + i, 2) == 1 && told == null) {
                told = new ArrayList<>();
                for (int j = 0; j + 8 <= bytes; j += 8) {
                    told.add(number(place + i + 4 + j, 8));
                }
            }
            i += 4 + bytes;
        }
        return told == null ? new ArrayList<>() : told;
    }

    /** Where the content begins. */
    private int local(Directory d, Part p) {
        int at = p.offset;
        need(at + 30 <= d.start && number(at, 4) == 0x04034b50, 3);
        int name = (int) number(at + 26, 2);
        int extras = (int) number(at + 28, 2);
        int content = at + 30 + name + extras;
        need(content <= d.start, 3);
        need(number(at + 6, 2) == p.flags && number(at + 8, 2) == p.method, 3);
        need(text(at + 30, name).equals(p.name), 3);
        List<Long> told = wides(at + 30 + name, extras, 3);
        int crc = (int) number(at + 14, 4);
        long packedSize = number(at + 18, 4);
        long size = number(at + 22, 4);
        if (p.flags == 8) {
            need(crc == 0 && packedSize == 0 && size == 0, 3);
            return content;
        }
        need(crc == p.crc, 3);
        if (packedSize == 0xffffffffL && size == 0xffffffffL) {
            need(told.size() >= 2, 3);
            need(told.get(0) == p.size && told.get(1) == p.packedSize, 3);
        } else {
            need(packedSize == p.packedSize && size == p.size, 3);
        }
        return content;
    }

    private int allBytes(Directory d, Part p) {
        return local(d, p) + p.packedSize + (p.flags == 8 ? 16 : 0) - p.offset;
    }

    private List<Integer> content(Directory d, int k) {
        Part p = d.parts.get(k);
        int start = local(d, p);
        need(p.offset + allBytes(d, p) <= d.start, 4);
        Set<Integer> own = new HashSet<>();
        for (int i = 0; i < allBytes(d, p); i++) {
            own.add(p.offset + i);
        }
        for (Part other : d.parts.subList(0, k)) {
            int n;
            try {
                n = allBytes(d, other);
            } catch (Wrong e) {
                continue;
            }
            for (int i = 0; i < n; i++) {
                need(!own.contains(other.offset + i), 4);
            }
        }
        int behind = start + p.packedSize;
        if (p.flags == 8) {
            need(number(behind, 4) == 0x08074b50 && (int) number(behind + 4, 4) == p.crc
                && number(behind + 8, 4) == p.packedSize && number(behind + 12, 4) == p.size, 5);
        }
        List<Integer> content = new ArrayList<>(file.subList(start, behind));
        if (p.method == 0) {
            need(p.packedSize == p.size, 6);
        } else {
            content = unpacked(content);
        }
        need(content.size() == p.size, 7);
        need(Due.crcOf(array(content)) == p.crc, 8);
        return content;
    }

    // ---- packed bytes

    private static List<Integer> packed(List<Integer> bytes) {
        Bits bits = new Bits().fixed(true);
        int here = 0;
        while (here < bytes.size()) {
            int best = 0;
            int from = 0;
            for (int d = 1; d <= here; d++) {
                int n = 0;
                while (here + n < bytes.size() && n < 258 && bytes.get(here + n).equals(bytes.get(here + n - d))) {
                    n++;
                }
                if (n > best) {
                    best = n;
                    from = d;
                }
            }
            if (best < 3) {
                bits.symbol(bytes.get(here));
                here++;
            } else {
                writeLength(bits, best);
                writeDistance(bits, from);
                here += best;
            }
        }
        List<Integer> row = new ArrayList<>();
        append(row, bits.symbol(256).bytes());
        return row;
    }

    private static void writeLength(Bits bits, int length) {
        for (int s = 285; s >= 257; s--) {
            int[] r = lengthOf(s);
            if (length >= r[0]) {
                bits.symbol(s).number(length - r[0], r[1]);
                return;
            }
        }
    }

    private static void writeDistance(Bits bits, int distance) {
        for (int s = 29; s >= 0; s--) {
            int[] r = distanceOf(s);
            if (distance >= r[0]) {
                bits.distance(s).number(distance - r[0], r[1]);
                return;
            }
        }
    }

    /** The least length of a symbol, and how many bits it has more. */
    private static int[] lengthOf(int symbol) {
        if (symbol <= 264) {
            return new int[] {symbol - 254, 0};
        }
        for (int e = 1; e <= 5; e++) {
            for (int j = 0; j < 4; j++) {
                if (symbol == 264 + 4 * (e - 1) + 1 + j) {
                    return new int[] {(4 + j) * (1 << e) + 3, e};
                }
            }
        }
        need(symbol == 285, 6);
        return new int[] {258, 0};
    }

    private static int[] distanceOf(int symbol) {
        if (symbol < 4) {
            return new int[] {symbol + 1, 0};
        }
        need(symbol < 30, 6);
        int e = (symbol - 2) / 2;
        return new int[] {(2 + (symbol - 2 * e - 2)) * (1 << e) + 1, e};
    }

    /** Bits one behind the other. */
    private static final class Reader {
        final List<Integer> bytes;
        int place;

        Reader(List<Integer> bytes) {
            this.bytes = bytes;
        }

        int number(int n) {
            int x = 0;
            for (int i = 0; i < n; i++) {
                need(place < 8 * bytes.size(), 6);
                x += (bytes.get(place / 8) >> place % 8 & 1) << i;
                place++;
            }
            return x;
        }

        int symbol(Map<String, Integer> code) {
            StringBuilder word = new StringBuilder();
            for (int i = 0; i < 15; i++) {
                word.append(number(1));
                Integer s = code.get(word.toString());
                if (s != null) {
                    return s;
                }
            }
            throw new Wrong(6);
        }
    }

    private static Map<String, Integer> code(List<Integer> lengths) {
        long sum = 0;
        int[] all = new int[lengths.size()];
        for (int i = 0; i < all.length; i++) {
            all[i] = lengths.get(i);
            sum += all[i] == 0 ? 0 : 1L << 15 - all[i];
        }
        need(sum <= 1 << 15, 6);
        Map<String, Integer> code = new HashMap<>();
        String[] words = Bits.words(all);
        for (int i = 0; i < all.length; i++) {
            if (words[i] != null) {
                code.put(words[i], i);
            }
        }
        return code;
    }

    private static List<Integer> unpacked(List<Integer> bytes) {
        Reader in = new Reader(bytes);
        List<Integer> out = new ArrayList<>();
        boolean last = false;
        while (!last) {
            last = in.number(1) == 1;
            int kind = in.number(2);
            need(kind != 3, 6);
            if (kind == 0) {
                while (in.place % 8 != 0) {
                    in.number(1);
                }
                int n = in.number(16);
                need(in.number(16) == 65535 - n, 6);
                for (int i = 0; i < n; i++) {
                    out.add(in.number(8));
                }
            } else {
                List<Integer> lengths = new ArrayList<>();
                int symbols = kind == 1 ? 288 : ownLengths(in, lengths);
                if (kind == 1) {
                    for (int l : Bits.fixedSymbols()) {
                        lengths.add(l);
                    }
                    for (int l : Bits.fixedDistances()) {
                        lengths.add(l);
                    }
                }
                symbols(in, out, code(lengths.subList(0, symbols)), code(lengths.subList(symbols, lengths.size())));
            }
            need(out.size() <= 200, 6);
        }
        need(in.place > 8 * (bytes.size() - 1), 6);
        return out;
    }

    private static int ownLengths(Reader in, List<Integer> lengths) {
        int symbols = in.number(5) + 257;
        int distances = in.number(5) + 1;
        int n = in.number(4) + 4;
        int[] order = {16, 17, 18, 0, 8, 7, 9, 6, 10, 5, 11, 4, 12, 3, 13, 2, 14, 1, 15};
        List<Integer> first = new ArrayList<>();
        for (int i = 0; i < 19; i++) {
            first.add(0);
        }
        for (int i = 0; i < n; i++) {
            first.set(order[i], in.number(3));
        }
        Map<String, Integer> code = code(first);
        while (lengths.size() < symbols + distances) {
            int s = in.symbol(code);
            int length = s < 16 ? s : 0;
            int times = 1;
            if (s == 16) {
                need(!lengths.isEmpty(), 6);
                length = lengths.get(lengths.size() - 1);
                times = 3 + in.number(2);
            } else if (s == 17) {
                times = 3 + in.number(3);
            } else if (s == 18) {
                times = 11 + in.number(7);
            }
            for (int i = 0; i < times; i++) {
                lengths.add(length);
            }
        }
        need(lengths.size() == symbols + distances, 6);
        return symbols;
    }

    private static void symbols(Reader in, List<Integer> out, Map<String, Integer> code, Map<String, Integer> far) {
        for (int s = in.symbol(code); s != 256; s = in.symbol(code)) {
            if (s < 256) {
                out.add(s);
                continue;
            }
            int[] l = lengthOf(s);
            int length = l[0] + in.number(l[1]);
            int[] d = distanceOf(in.symbol(far));
            int distance = d[0] + in.number(d[1]);
            need(distance <= out.size(), 6);
            for (int i = 0; i < length; i++) {
                out.add(out.get(out.size() - distance));
            }
        }
    }

    // ---- rows

    private static byte[] array(List<Integer> row) {
        byte[] all = new byte[row.size()];
        for (int i = 0; i < all.length; i++) {
            all[i] = (byte) (int) row.get(i);
        }
        return all;
    }

    private static void append(List<Integer> row, byte[] bytes) {
        for (byte b : bytes) {
            row.add(b & 255);
        }
    }
}
