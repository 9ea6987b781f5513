import java.util.NoSuchElementException;

/** Archives of named contents in one row of bytes. The promises stand in the project's document. */
public final class ZipArray {
    public static final int NONE = -1;

    private static final int BUFFER_LIMIT = 200;
    private static final int FILE_LIMIT = 1600;
    private static final int ENTRY_LIMIT = 8;
    // 3 bits, 9 bits at most for each of 200 bytes, and 7 for the end's word: 1810 bits.
    private static final int PACKED_LIMIT = 227;

    private static final int STORED = 0;
    private static final int PACKED = 8;
    private static final int SIZES_BEHIND = 8;

    private static final long WIDE_2 = 0xffffL;
    private static final long WIDE_4 = 0xffffffffL;

    private static final long LOCAL_MARK = 0x04034b50L;
    private static final long BEHIND_MARK = 0x08074b50L;
    private static final long DIRECTORY_MARK = 0x02014b50L;
    private static final long END_MARK = 0x06054b50L;
    private static final long PLACE_MARK = 0x07064b50L;
    private static final long WIDE_END_MARK = 0x06064b50L;

    private static final int LOCAL_BYTES = 30;
    private static final int BEHIND_BYTES = 16;
    private static final int DIRECTORY_BYTES = 46;
    private static final int END_BYTES = 22;
    private static final int PLACE_BYTES = 20;
    private static final int WIDE_END_BYTES = 56;
    // What the wide end says of its own length: all but its mark and this number.
    private static final long WIDE_END_REST = 44L;

    private static final int WIDE_KIND = 1;
    private static final int RECORD_HEAD = 4;

    private final Row buffer;
    private final Row file;
    private final Row packed;
    private final Row given;
    private final Packer packer;
    private final Unpacker unpacker;
    private final Archive archive;
    private final Writer writer;
    private final Entry fresh;

    public ZipArray() {
        buffer = new Row(BUFFER_LIMIT);
        file = new Row(FILE_LIMIT);
        packed = new Row(PACKED_LIMIT);
        given = new Row(BUFFER_LIMIT);
        packer = new Packer(packed);
        unpacker = new Unpacker(given);
        archive = new Archive(file);
        writer = new Writer(new Row(FILE_LIMIT));
        fresh = new Entry();
    }

    public int clear() {
        int had = buffer.size;
        buffer.empty();
        return had;
    }

    public int give(long bytes, int n) throws IllegalArgumentException, IllegalStateException {
        return appendTo(buffer, bytes, n);
    }

    public int fill(int b, int n) throws IllegalArgumentException, IllegalStateException {
        if (!isByte(b) || n < 1 || n > BUFFER_LIMIT) {
            throw new IllegalArgumentException();
        }
        if (!buffer.hasRoom(n)) {
            throw new IllegalStateException();
        }
        for (int i = 0; i < n; i++) {
            buffer.append(b);
        }
        return buffer.size;
    }

    public int held() {
        return buffer.size;
    }

    public int at(int i) throws IndexOutOfBoundsException {
        if (!buffer.has(i)) {
            throw new IndexOutOfBoundsException();
        }
        return buffer.get(i);
    }

    public int crc() {
        return buffer.checksum();
    }

    public int pack() throws IllegalStateException {
        packer.packAll(buffer);
        if (packed.size > BUFFER_LIMIT) {
            throw new IllegalStateException();
        }
        buffer.become(packed);
        return buffer.size;
    }

    public int unpack() throws ArithmeticException {
        if (!unpacker.unpacks(buffer, 0, buffer.size)) {
            throw new ArithmeticException();
        }
        buffer.become(given);
        return buffer.size;
    }

    public void create() {
        writer.begin(file, 0);
        writer.writeEnd(0, 0, 0);
        file.become(writer.draft);
    }

    public void wide(boolean is) {
        writer.writesWide = is;
    }

    public int add(int name, int method, boolean later)
            throws UnsupportedOperationException, IllegalArgumentException, IllegalStateException {
        needArchive();
        if (nameBytes(name) == 0 || !isMethod(method)) {
            throw new IllegalArgumentException();
        }
        int replaced = archive.find(name);
        int entries = archive.entryCount + (replaced == NONE ? 1 : 0);
        if (entries > ENTRY_LIMIT) {
            throw new IllegalStateException();
        }
        if (method == PACKED) {
            packer.packAll(buffer);
        }
        describeFresh(name, method, later);
        writer.begin(file, archive.directoryStart);
        writer.writeLocal(fresh, method == PACKED ? packed : buffer);
        int start = writer.draft.size;
        keepParts(replaced);
        writer.writePart(fresh);
        finishFile(entries, start);
        return entries;
    }

    public int remove(int name)
            throws UnsupportedOperationException, NoSuchElementException, IllegalStateException {
        needArchive();
        int taken = archive.find(name);
        if (taken == NONE) {
            throw new NoSuchElementException();
        }
        int entries = archive.entryCount - 1;
        writer.begin(file, archive.directoryStart);
        keepParts(taken);
        finishFile(entries, archive.directoryStart);
        return entries;
    }

    public int load(int name)
            throws UnsupportedOperationException, NoSuchElementException, ArithmeticException {
        needArchive();
        int k = archive.find(name);
        if (k == NONE) {
            throw new NoSuchElementException();
        }
        if (faultOf(k) != 0) {
            throw new ArithmeticException();
        }
        buffer.become(given);
        return buffer.size;
    }

    public int count() throws UnsupportedOperationException {
        needArchive();
        return archive.entryCount;
    }

    public int about(int k, int what)
            throws UnsupportedOperationException, IndexOutOfBoundsException, IllegalArgumentException {
        needArchive();
        if (k < 0 || k >= archive.entryCount) {
            throw new IndexOutOfBoundsException();
        }
        Entry e = archive.entries[k];
        switch (what) {
            case 0: return e.name;
            case 1: return e.flags;
            case 2: return e.method;
            case 3: return e.checksum;
            case 4: return e.packedSize;
            case 5: return e.size;
            case 6: return e.offset;
            default: throw new IllegalArgumentException();
        }
    }

    public int check() {
        int fault = archive.read();
        for (int k = 0; k < archive.entryCount && fault == 0; k++) {
            int own = faultOf(k);
            fault = own == 0 ? 0 : 100 * k + own;
        }
        return fault;
    }

    public int length() {
        return file.size;
    }

    public int byteAt(int k) throws IndexOutOfBoundsException {
        if (!file.has(k)) {
            throw new IndexOutOfBoundsException();
        }
        return file.get(k);
    }

    public void poke(int k, int b) throws IndexOutOfBoundsException, IllegalArgumentException {
        if (!file.has(k)) {
            throw new IndexOutOfBoundsException();
        }
        if (!isByte(b)) {
            throw new IllegalArgumentException();
        }
        file.bytes[k] = b;
    }

    public int put(long bytes, int n) throws IllegalArgumentException, IllegalStateException {
        return appendTo(file, bytes, n);
    }

    public void cut(int n) throws IllegalArgumentException {
        if (n < 0 || n > file.size) {
            throw new IllegalArgumentException();
        }
        file.size = n;
    }

    private static int appendTo(Row row, long bytes, int n) {
        if (n < 1 || n > 8) {
            throw new IllegalArgumentException();
        }
        if (!row.hasRoom(n)) {
            throw new IllegalStateException();
        }
        row.appendHighestFirst(bytes, n);
        return row.size;
    }

    private void needArchive() {
        if (archive.read() != 0) {
            throw new UnsupportedOperationException();
        }
    }

    private void describeFresh(int name, int method, boolean later) {
        fresh.name = name;
        fresh.flags = later ? SIZES_BEHIND : 0;
        fresh.method = method;
        fresh.checksum = buffer.checksum();
        fresh.size = buffer.size;
        fresh.packedSize = method == PACKED ? packed.size : buffer.size;
        fresh.offset = archive.directoryStart;
    }

    private void keepParts(int left) {
        for (int k = 0; k < archive.entryCount; k++) {
            if (k != left) {
                Entry e = archive.entries[k];
                writer.draft.appendPart(file, e.partStart, e.partEnd);
            }
        }
    }

    // The draft may have outgrown a file: only here it is known, and the file is still the old one.
    private void finishFile(int entries, int directoryStart) {
        int remark = file.size - archive.remarkStart;
        writer.writeEnd(entries, directoryStart, remark);
        writer.draft.appendPart(file, archive.remarkStart, file.size);
        if (writer.draft.overflown) {
            throw new IllegalStateException();
        }
        file.become(writer.draft);
    }

    /** What is wrong of entry k, 3 to 8, or 0; if 0, its content has been given out. */
    private int faultOf(int k) {
        Entry e = archive.entries[k];
        int start = archive.contentStart(e);
        if (start == NONE) {
            return 3;
        }
        if (archive.goesTooFar(k, start)) {
            return 4;
        }
        if (!archive.saidBehind(e, start + e.packedSize)) {
            return 5;
        }
        if (!givesOut(e, start)) {
            return 6;
        }
        if (given.size != e.size) {
            return 7;
        }
        return given.checksum() == e.checksum ? 0 : 8;
    }

    private boolean givesOut(Entry e, int start) {
        if (e.method == PACKED) {
            return unpacker.unpacks(file, start, start + e.packedSize);
        }
        given.empty();
        if (e.packedSize != e.size) {
            return false;
        }
        given.appendPart(file, start, start + e.size);
        return true;
    }

    private static boolean isByte(int b) {
        return b >= 0 && b <= 255;
    }

    private static boolean isMethod(int method) {
        return method == STORED || method == PACKED;
    }

    private static boolean isNameByte(int b) {
        return b >= 33 && b <= 126;
    }

    /** How many bytes a name has that is told as a number; 0 if it is none. */
    private static int nameBytes(int name) {
        if (name <= 0 || name > 0xffffff) {
            return 0;
        }
        int n = name > 0xffff ? 3 : name > 0xff ? 2 : 1;
        for (int i = 0; i < n; i++) {
            if (!isNameByte(name >> (8 * i) & 255)) {
                return 0;
            }
        }
        return n;
    }

    /** Bytes one behind the other, up to a limit. */
    private static final class Row {
        final int[] bytes;
        int size;
        boolean overflown;

        Row(int limit) {
            bytes = new int[limit];
        }

        void empty() {
            size = 0;
            overflown = false;
        }

        boolean has(int i) {
            return i >= 0 && i < size;
        }

        boolean hasRoom(int n) {
            return n <= bytes.length - size;
        }

        int get(int i) {
            return has(i) ? bytes[i] : 0;
        }

        // What does not fit is dropped and remembered, so that a long writer asks only once.
        void append(int b) {
            if (size < bytes.length) {
                bytes[size] = b;
                size++;
            } else {
                overflown = true;
            }
        }

        void appendNumber(long x, int n) {
            for (int i = 0; i < n; i++) {
                append((int) (x >>> (8 * i)) & 255);
            }
        }

        void appendHighestFirst(long x, int n) {
            for (int i = n - 1; i >= 0; i--) {
                append((int) (x >>> (8 * i)) & 255);
            }
        }

        void appendPart(Row from, int start, int end) {
            if (start < 0 || end < start || end > from.size || !hasRoom(end - start)) {
                overflown = true;
                return;
            }
            System.arraycopy(from.bytes, start, bytes, size, end - start);
            size += end - start;
        }

        void become(Row other) {
            empty();
            appendPart(other, 0, other.size);
        }

        long number(int place, int n) {
            if (place < 0 || n > size - place) {
                return 0;
            }
            long x = 0;
            for (int i = n - 1; i >= 0; i--) {
                x = x << 8 | bytes[place + i];
            }
            return x;
        }

        int checksum() {
            int r = -1;
            for (int i = 0; i < size; i++) {
                r ^= bytes[i];
                for (int bit = 0; bit < 8; bit++) {
                    r = (r & 1) == 1 ? r >>> 1 ^ 0xedb88320 : r >>> 1;
                }
            }
            return -1 - r;
        }
    }

    /** An entry as the directory tells it, and where the directory does. */
    private static final class Entry {
        int name;
        int flags;
        int method;
        int checksum;
        int packedSize;
        int size;
        int offset;
        int partStart;
        int partEnd;
    }

    /** The extras of one part, and the wide numbers that are taken from them in turn. */
    private static final class Extras {
        final Row file;
        boolean whole;
        boolean lacks;
        int place;
        int end;

        Extras(Row file) {
            this.file = file;
        }

        void open(int from, int to) {
            lacks = false;
            place = to;
            end = to;
            boolean found = false;
            int bytes = 0;
            int record = from;
            for (; to - record >= RECORD_HEAD; record += RECORD_HEAD + bytes) {
                bytes = (int) file.number(record + 2, 2);
                if (!found && file.number(record, 2) == WIDE_KIND) {
                    found = true;
                    place = record + RECORD_HEAD;
                    end = place + bytes;
                }
            }
            whole = record == to;
        }

        /** The number itself or, if it is wide, the next one of eight bytes. */
        long told(long narrow) {
            if (narrow != WIDE_4) {
                return narrow;
            }
            if (end - place < 8) {
                lacks = true;
                return narrow;
            }
            place += 8;
            return file.number(place - 8, 8);
        }
    }

    /** The file, read as an archive. */
    private static final class Archive {
        final Row file;
        final Extras extras;
        final Entry[] entries;
        int entryCount;
        int directoryStart;
        int directoryEnd;
        int remarkStart;

        Archive(Row file) {
            this.file = file;
            extras = new Extras(file);
            entries = new Entry[ENTRY_LIMIT];
            for (int k = 0; k < ENTRY_LIMIT; k++) {
                entries[k] = new Entry();
            }
        }

        /** What is wrong of the whole, 1 or 2, or 0. */
        int read() {
            entryCount = 0;
            int end = findEnd();
            if (end == NONE) {
                return 1;
            }
            remarkStart = end + END_BYTES;
            if (!readEnd(end)) {
                return 2;
            }
            int place = directoryStart;
            for (int k = 0; k < entryCount; k++) {
                if (!readPart(entries[k], place)) {
                    return 2;
                }
                place = entries[k].partEnd;
            }
            return place == directoryEnd && namesDiffer() ? 0 : 2;
        }

        int find(int name) {
            for (int k = 0; k < entryCount; k++) {
                if (entries[k].name == name) {
                    return k;
                }
            }
            return NONE;
        }

        private int findEnd() {
            for (int at = file.size - END_BYTES; at >= 0; at--) {
                if (file.bytes[at] == 0x50 && file.number(at, 4) == END_MARK
                        && at + END_BYTES + file.number(at + 20, 2) == file.size) {
                    return at;
                }
            }
            return NONE;
        }

        private boolean readEnd(int end) {
            long offset = file.number(end + 16, 4);
            if (offset != WIDE_4) {
                return takeCounts(file.number(end + 8, 2), file.number(end + 10, 2))
                    && takeBounds(offset, file.number(end + 12, 4), end);
            }
            int before = end - PLACE_BYTES;
            int first = before - WIDE_END_BYTES;
            if (first < 0 || file.number(before, 4) != PLACE_MARK
                    || file.number(before + 8, 8) != first
                    || file.number(first, 4) != WIDE_END_MARK
                    || file.number(first + 4, 8) != WIDE_END_REST) {
                return false;
            }
            return takeCounts(file.number(first + 24, 8), file.number(first + 32, 8))
                && takeBounds(file.number(first + 48, 8), file.number(first + 40, 8), first);
        }

        private boolean takeCounts(long one, long again) {
            if (one != again || one < 0 || one > ENTRY_LIMIT) {
                return false;
            }
            entryCount = (int) one;
            return true;
        }

        private boolean takeBounds(long start, long size, int end) {
            if (start < 0 || start > end || size != end - start) {
                return false;
            }
            directoryStart = (int) start;
            directoryEnd = end;
            return true;
        }

        private boolean readPart(Entry e, int start) {
            if (directoryEnd - start < DIRECTORY_BYTES || file.number(start, 4) != DIRECTORY_MARK) {
                return false;
            }
            int nameStart = start + DIRECTORY_BYTES;
            int extrasStart = nameStart + (int) file.number(start + 28, 2);
            int remark = extrasStart + (int) file.number(start + 30, 2);
            e.partStart = start;
            e.partEnd = remark + (int) file.number(start + 32, 2);
            if (e.partEnd > directoryEnd) {
                return false;
            }
            e.name = readName(nameStart, extrasStart);
            e.flags = (int) file.number(start + 8, 2);
            e.method = (int) file.number(start + 10, 2);
            e.checksum = (int) file.number(start + 16, 4);
            if (e.name == NONE || !isMethod(e.method) || e.flags != 0 && e.flags != SIZES_BEHIND) {
                return false;
            }
            extras.open(extrasStart, remark);
            return extras.whole && takeNumbers(e);
        }

        // The order in which wide numbers stand in the extras is not that of the part.
        private boolean takeNumbers(Entry e) {
            long size = extras.told(file.number(e.partStart + 24, 4));
            long packedSize = extras.told(file.number(e.partStart + 20, 4));
            long offset = extras.told(file.number(e.partStart + 42, 4));
            if (extras.lacks || size < 0 || size > BUFFER_LIMIT
                    || packedSize < 0 || packedSize > directoryStart
                    || offset < 0 || offset > directoryStart) {
                return false;
            }
            e.size = (int) size;
            e.packedSize = (int) packedSize;
            e.offset = (int) offset;
            return true;
        }

        private int readName(int start, int end) {
            if (end - start < 1 || end - start > 3) {
                return NONE;
            }
            int name = 0;
            for (int i = start; i < end; i++) {
                if (!isNameByte(file.get(i))) {
                    return NONE;
                }
                name = name << 8 | file.get(i);
            }
            return name;
        }

        private boolean namesDiffer() {
            for (int k = 0; k < entryCount; k++) {
                if (find(entries[k].name) != k) {
                    return false;
                }
            }
            return true;
        }

        /** Where the content begins behind the local part; NONE if that part is wrong. */
        int contentStart(Entry e) {
            int start = e.offset;
            if (directoryStart - start < LOCAL_BYTES || file.number(start, 4) != LOCAL_MARK) {
                return NONE;
            }
            int nameStart = start + LOCAL_BYTES;
            int extrasStart = nameStart + (int) file.number(start + 26, 2);
            int content = extrasStart + (int) file.number(start + 28, 2);
            if (content > directoryStart
                    || file.number(start + 6, 2) != e.flags
                    || file.number(start + 8, 2) != e.method
                    || readName(nameStart, extrasStart) != e.name) {
                return NONE;
            }
            extras.open(extrasStart, content);
            return extras.whole && tellsTheSame(e) ? content : NONE;
        }

        private boolean tellsTheSame(Entry e) {
            int checksum = (int) file.number(e.offset + 14, 4);
            long packedSize = file.number(e.offset + 18, 4);
            long size = file.number(e.offset + 22, 4);
            if (e.flags == SIZES_BEHIND) {
                return checksum == 0 && packedSize == 0 && size == 0;
            }
            // One wide size alone is none of the ways in which a local part tells them.
            if ((size == WIDE_4) != (packedSize == WIDE_4)) {
                return false;
            }
            long toldSize = extras.told(size);
            long toldPackedSize = extras.told(packedSize);
            return !extras.lacks && checksum == e.checksum
                && toldSize == e.size && toldPackedSize == e.packedSize;
        }

        private int endOf(Entry e, int content) {
            return content + e.packedSize + (e.flags == SIZES_BEHIND ? BEHIND_BYTES : 0);
        }

        boolean goesTooFar(int k, int content) {
            int end = endOf(entries[k], content);
            if (end > directoryStart) {
                return true;
            }
            for (int j = 0; j < k; j++) {
                int other = contentStart(entries[j]);
                if (other != NONE && entries[j].offset < end
                        && entries[k].offset < endOf(entries[j], other)) {
                    return true;
                }
            }
            return false;
        }

        boolean saidBehind(Entry e, int place) {
            return e.flags != SIZES_BEHIND
                || file.number(place, 4) == BEHIND_MARK
                && (int) file.number(place + 4, 4) == e.checksum
                && file.number(place + 8, 4) == e.packedSize
                && file.number(place + 12, 4) == e.size;
        }
    }

    /** Writes the next file, part by part, while the old one still stands. */
    private static final class Writer {
        final Row draft;
        boolean writesWide;

        Writer(Row draft) {
            this.draft = draft;
        }

        void begin(Row old, int kept) {
            draft.empty();
            draft.appendPart(old, 0, kept);
        }

        private boolean isWide(Entry e) {
            return writesWide && e.flags != SIZES_BEHIND;
        }

        void writeLocal(Entry e, Row content) {
            boolean later = e.flags == SIZES_BEHIND;
            draft.appendNumber(LOCAL_MARK, 4);
            draft.appendNumber(0, 2);
            draft.appendNumber(e.flags, 2);
            draft.appendNumber(e.method, 2);
            draft.appendNumber(0, 4);
            draft.appendNumber(later ? 0 : e.checksum, 4);
            draft.appendNumber(later ? 0 : isWide(e) ? WIDE_4 : e.packedSize, 4);
            draft.appendNumber(later ? 0 : isWide(e) ? WIDE_4 : e.size, 4);
            draft.appendNumber(nameBytes(e.name), 2);
            draft.appendNumber(isWide(e) ? RECORD_HEAD + 16 : 0, 2);
            draft.appendHighestFirst(e.name, nameBytes(e.name));
            if (isWide(e)) {
                writeRecord(e, 16);
            }
            draft.appendPart(content, 0, content.size);
            if (later) {
                writeBehind(e);
            }
        }

        private void writeRecord(Entry e, int bytes) {
            draft.appendNumber(WIDE_KIND, 2);
            draft.appendNumber(bytes, 2);
            draft.appendNumber(e.size, 8);
            draft.appendNumber(e.packedSize, 8);
        }

        private void writeBehind(Entry e) {
            draft.appendNumber(BEHIND_MARK, 4);
            draft.appendNumber(e.checksum, 4);
            draft.appendNumber(e.packedSize, 4);
            draft.appendNumber(e.size, 4);
        }

        void writePart(Entry e) {
            draft.appendNumber(DIRECTORY_MARK, 4);
            draft.appendNumber(0, 4);
            draft.appendNumber(e.flags, 2);
            draft.appendNumber(e.method, 2);
            draft.appendNumber(0, 4);
            draft.appendNumber(e.checksum, 4);
            draft.appendNumber(isWide(e) ? WIDE_4 : e.packedSize, 4);
            draft.appendNumber(isWide(e) ? WIDE_4 : e.size, 4);
            draft.appendNumber(nameBytes(e.name), 2);
            draft.appendNumber(isWide(e) ? RECORD_HEAD + 24 : 0, 2);
            draft.appendNumber(0, 2);
            draft.appendNumber(0, 8);
            draft.appendNumber(isWide(e) ? WIDE_4 : e.offset, 4);
            draft.appendHighestFirst(e.name, nameBytes(e.name));
            if (isWide(e)) {
                writeRecord(e, 24);
                draft.appendNumber(e.offset, 8);
            }
        }

        /** The end, up to its remark; the directory goes from its start up to here. */
        void writeEnd(int entries, int directoryStart, int remark) {
            int size = draft.size - directoryStart;
            if (writesWide) {
                writeWideEnd(entries, directoryStart, size);
            }
            draft.appendNumber(END_MARK, 4);
            draft.appendNumber(0, 4);
            draft.appendNumber(writesWide ? WIDE_2 : entries, 2);
            draft.appendNumber(writesWide ? WIDE_2 : entries, 2);
            draft.appendNumber(writesWide ? WIDE_4 : size, 4);
            draft.appendNumber(writesWide ? WIDE_4 : directoryStart, 4);
            draft.appendNumber(remark, 2);
        }

        private void writeWideEnd(int entries, int directoryStart, int size) {
            int place = draft.size;
            draft.appendNumber(WIDE_END_MARK, 4);
            draft.appendNumber(WIDE_END_REST, 8);
            draft.appendNumber(0, 4);
            draft.appendNumber(0, 8);
            draft.appendNumber(entries, 8);
            draft.appendNumber(entries, 8);
            draft.appendNumber(size, 8);
            draft.appendNumber(directoryStart, 8);
            draft.appendNumber(PLACE_MARK, 4);
            draft.appendNumber(0, 4);
            draft.appendNumber(place, 8);
            draft.appendNumber(0, 4);
        }
    }

    /** Packs bytes into one block of kind 1. */
    private static final class Packer {
        private static final int LEAST_REPEAT = 3;
        private static final int MOST_REPEAT = 258;

        final Row packed;
        int bits;
        int bitCount;
        int repeatLength;
        int repeatDistance;

        Packer(Row packed) {
            this.packed = packed;
        }

        void packAll(Row source) {
            packed.empty();
            bits = 0;
            bitCount = 0;
            writeBits(1, 1);
            writeBits(1, 2);
            int step = 1;
            for (int here = 0; here < source.size; here += step) {
                findRepeat(source, here);
                if (repeatLength >= LEAST_REPEAT) {
                    writeLength(repeatLength);
                    writeDistance(repeatDistance);
                    step = repeatLength;
                } else {
                    writeSymbol(source.get(here));
                    step = 1;
                }
            }
            writeSymbol(256);
            if (bitCount > 0) {
                writeBits(0, 8 - bitCount);
            }
        }

        private void findRepeat(Row source, int here) {
            repeatLength = 0;
            repeatDistance = 0;
            for (int distance = 1; distance <= here; distance++) {
                int same = sameBytes(source, here, distance);
                if (same > repeatLength) {
                    repeatLength = same;
                    repeatDistance = distance;
                }
            }
        }

        private static int sameBytes(Row source, int here, int distance) {
            int most = Math.min(MOST_REPEAT, source.size - here);
            int n = 0;
            while (n < most && source.bytes[here + n] == source.bytes[here + n - distance]) {
                n++;
            }
            return n;
        }

        private void writeLength(int length) {
            if (length == MOST_REPEAT) {
                writeSymbol(285);
                return;
            }
            int v = length - LEAST_REPEAT;
            if (v < 8) {
                writeSymbol(257 + v);
                return;
            }
            int e = 1;
            while (e < 5 && v >> e > 7) {
                e++;
            }
            writeSymbol(261 + 4 * e + (v >> e) - 4);
            writeBits(v, e);
        }

        private void writeDistance(int distance) {
            int v = distance - 1;
            if (v < 4) {
                writeWord(v, 5);
                return;
            }
            int e = 1;
            while (e < 13 && v >> e > 3) {
                e++;
            }
            writeWord(2 * e + (v >> e), 5);
            writeBits(v, e);
        }

        // The words of kind 1 by the rule for codes, worked out beforehand.
        private void writeSymbol(int symbol) {
            if (symbol < 144) {
                writeWord(48 + symbol, 8);
            } else if (symbol < 256) {
                writeWord(400 + symbol - 144, 9);
            } else if (symbol < 280) {
                writeWord(symbol - 256, 7);
            } else {
                writeWord(192 + symbol - 280, 8);
            }
        }

        private void writeWord(int word, int n) {
            for (int i = n - 1; i >= 0; i--) {
                writeBits(word >> i, 1);
            }
        }

        private void writeBits(int number, int n) {
            for (int i = 0; i < n; i++) {
                bits |= (number >> i & 1) << bitCount;
                bitCount++;
                if (bitCount == 8) {
                    packed.append(bits);
                    bits = 0;
                    bitCount = 0;
                }
            }
        }
    }

    /** A code: how many words each length has, and the symbols in the order of their words. */
    private static final class Code {
        static final int LONGEST = 15;

        final int[] counts;
        final int[] symbols;
        final int[] next;

        Code(int most) {
            counts = new int[LONGEST + 1];
            symbols = new int[most];
            next = new int[LONGEST + 1];
        }

        /** False if there are more words than there can be. */
        boolean build(int[] lengths, int from, int n) {
            for (int length = 0; length <= LONGEST; length++) {
                counts[length] = 0;
            }
            for (int s = 0; s < n; s++) {
                counts[lengths[from + s]]++;
            }
            counts[0] = 0;
            int free = 1;
            int place = 0;
            for (int length = 1; length <= LONGEST; length++) {
                free = 2 * free - counts[length];
                if (free < 0) {
                    return false;
                }
                next[length] = place;
                place += counts[length];
            }
            for (int s = 0; s < n; s++) {
                int length = lengths[from + s];
                if (length > 0) {
                    symbols[next[length]] = s;
                    next[length]++;
                }
            }
            return true;
        }
    }

    /** Gives out what packed bytes say. */
    private static final class Unpacker {
        private static final int[] LENGTH_ORDER = {
            16, 17, 18, 0, 8, 7, 9, 6, 10, 5, 11, 4, 12, 3, 13, 2, 14, 1, 15
        };
        private static final int MOST_SYMBOLS = 288;
        private static final int MOST_DISTANCES = 32;
        // Each block and each symbol takes a bit at least, and a file has no more.
        private static final int MOST_STEPS = 8 * FILE_LIMIT;

        final Row given;
        final Code lengthCode;
        final Code symbolCode;
        final Code distanceCode;
        final int[] lengths;
        Row source;
        int place;
        int end;

        Unpacker(Row given) {
            this.given = given;
            source = given;
            lengthCode = new Code(LENGTH_ORDER.length);
            symbolCode = new Code(MOST_SYMBOLS);
            distanceCode = new Code(MOST_DISTANCES);
            lengths = new int[MOST_SYMBOLS + MOST_DISTANCES];
        }

        /** Whether these bytes of a row are packed bytes and nothing else. */
        boolean unpacks(Row from, int start, int stop) {
            given.empty();
            source = from;
            place = 8 * start;
            end = 8 * stop;
            for (int step = 0; step < MOST_STEPS; step++) {
                int last = takeBits(1);
                int kind = takeBits(2);
                boolean right = false;
                if (kind == 0) {
                    right = plainBlock();
                } else if (kind == 1) {
                    right = fixedCodes() && codedBlock();
                } else if (kind == 2) {
                    right = readCodes() && codedBlock();
                }
                if (!right) {
                    return false;
                }
                if (last == 1) {
                    return end - place < 8;
                }
            }
            return false;
        }

        /** A number, its lowest bit first; NONE if bits lack. */
        private int takeBits(int n) {
            if (n > end - place) {
                place = end;
                return NONE;
            }
            int number = 0;
            for (int i = 0; i < n; i++) {
                number |= (source.bytes[place >> 3] >> (place & 7) & 1) << i;
                place++;
            }
            return number;
        }

        /** The symbol of the word that stands here; NONE if none does. */
        private int takeSymbol(Code code) {
            int word = 0;
            int first = 0;
            int before = 0;
            for (int length = 1; length <= Code.LONGEST; length++) {
                if (place >= end) {
                    return NONE;
                }
                word = 2 * word + (source.bytes[place >> 3] >> (place & 7) & 1);
                place++;
                int n = code.counts[length];
                if (word - first < n) {
                    return code.symbols[before + word - first];
                }
                before += n;
                first = 2 * (first + n);
            }
            return NONE;
        }

        private boolean plainBlock() {
            place = place + 7 >> 3 << 3;
            int n = takeBits(16);
            int check = takeBits(16);
            if (n == NONE || check != 65535 - n || n > (end - place) / 8) {
                return false;
            }
            given.appendPart(source, place / 8, place / 8 + n);
            place += 8 * n;
            return !given.overflown;
        }

        private boolean fixedCodes() {
            for (int s = 0; s < MOST_SYMBOLS; s++) {
                lengths[s] = s < 144 ? 8 : s < 256 ? 9 : s < 280 ? 7 : 8;
            }
            for (int d = 0; d < MOST_DISTANCES; d++) {
                lengths[MOST_SYMBOLS + d] = 5;
            }
            return buildCodes(MOST_SYMBOLS, MOST_DISTANCES);
        }

        private boolean buildCodes(int symbols, int distances) {
            return symbolCode.build(lengths, 0, symbols)
                && distanceCode.build(lengths, symbols, distances);
        }

        private boolean readCodes() {
            int symbols = takeBits(5);
            int distances = takeBits(5);
            int told = takeBits(4);
            if (told == NONE) {
                return false;
            }
            for (int i = 0; i < LENGTH_ORDER.length; i++) {
                int length = i < told + 4 ? takeBits(3) : 0;
                if (length == NONE) {
                    return false;
                }
                lengths[LENGTH_ORDER[i]] = length;
            }
            return lengthCode.build(lengths, 0, LENGTH_ORDER.length)
                && readLengths(symbols + 257 + distances + 1)
                && buildCodes(symbols + 257, distances + 1);
        }

        private boolean readLengths(int n) {
            int done = 0;
            for (int step = 0; step < n && done < n; step++) {
                int symbol = takeSymbol(lengthCode);
                if (symbol == NONE || symbol == 16 && done == 0) {
                    return false;
                }
                int length = symbol < 16 ? symbol : symbol == 16 ? lengths[done - 1] : 0;
                int more = takeBits(symbol < 16 ? 0 : symbol == 16 ? 2 : symbol == 17 ? 3 : 7);
                int times = more + (symbol < 16 ? 1 : symbol == 18 ? 11 : 3);
                if (more == NONE || times > n - done) {
                    return false;
                }
                for (int i = 0; i < times; i++) {
                    lengths[done + i] = length;
                }
                done += times;
            }
            return done == n;
        }

        private boolean codedBlock() {
            for (int step = 0; step < MOST_STEPS; step++) {
                int symbol = takeSymbol(symbolCode);
                if (symbol == 256) {
                    return true;
                }
                if (symbol == NONE) {
                    return false;
                }
                if (symbol < 256) {
                    given.append(symbol);
                } else {
                    int length = repeatLength(symbol);
                    if (length == NONE || !repeat(length, repeatDistance())) {
                        return false;
                    }
                }
                if (given.overflown) {
                    return false;
                }
            }
            return false;
        }

        private int repeatLength(int symbol) {
            if (symbol < 265) {
                return symbol - 254;
            }
            if (symbol >= 285) {
                return symbol == 285 ? 258 : NONE;
            }
            int e = (symbol - 261) / 4;
            int more = takeBits(e);
            return more == NONE ? NONE : (4 + (symbol - 265) % 4 << e) + 3 + more;
        }

        private int repeatDistance() {
            int symbol = takeSymbol(distanceCode);
            if (symbol < 4) {
                return symbol == NONE ? NONE : symbol + 1;
            }
            if (symbol >= 30) {
                return NONE;
            }
            int e = (symbol - 2) / 2;
            int more = takeBits(e);
            return more == NONE ? NONE : (2 + symbol % 2 << e) + 1 + more;
        }

        private boolean repeat(int length, int distance) {
            if (distance == NONE || distance > given.size || !given.hasRoom(length)) {
                return false;
            }
            for (int i = 0; i < length; i++) {
                given.append(given.bytes[given.size - distance]);
            }
            return true;
        }
    }
}
