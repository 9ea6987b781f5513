import java.io.ByteArrayOutputStream;

/** Writes the parts of archives, right or wrong ones, number by number. */
final class Bytes {
    private final ByteArrayOutputStream out = new ByteArrayOutputStream();

    Bytes n(long x, int bytes) {
        for (int i = 0; i < bytes; i++) {
            out.write((int) (x >>> 8 * i));
        }
        return this;
    }

    Bytes raw(byte[] bytes) {
        out.write(bytes, 0, bytes.length);
        return this;
    }

    Bytes text(String s) {
        return raw(Due.text(s));
    }

    int size() {
        return out.size();
    }

    byte[] all() {
        return out.toByteArray();
    }

    /** A record of extras. */
    static byte[] record(int kind, byte[] data) {
        return new Bytes().n(kind, 2).n(data.length, 2).raw(data).all();
    }

    /** A record of kind 1 with numbers of eight bytes. */
    static byte[] wides(long... numbers) {
        Bytes b = new Bytes();
        for (long x : numbers) {
            b.n(x, 8);
        }
        return record(1, b.all());
    }

    /** The end. */
    Bytes end(int entries, long size, long offset, String remark) {
        return n(0x06054b50, 4).n(0, 4).n(entries, 2).n(entries, 2).n(size, 4).n(offset, 4)
            .n(remark.length(), 2).text(remark);
    }

    /** The 56 and 20 bytes that stand here, before an end with a wide offset. */
    Bytes wideBefore(long entries, long size, long offset) {
        int place = size();
        return n(0x06064b50, 4).n(44, 8).n(0, 12).n(entries, 8).n(entries, 8).n(size, 8).n(offset, 8)
            .n(0x07064b50, 4).n(0, 4).n(place, 8).n(0, 4);
    }

    /** An entry whose numbers a test may turn wrong before it writes the parts. */
    static final class Item {
        String name = "a";
        int flags;
        int method;
        long crc;
        long packedSize;
        long size;
        long offset;
        byte[] content;
        byte[] localExtras = new byte[0];
        byte[] extras = new byte[0];
        String remark = "";
        long localCrc;
        long localPackedSize;
        long localSize;
        long behindCrc;
        long behindPackedSize;
        long behindSize;

        /** An entry that is right, if it is written at this offset. */
        Item(String name, int method, boolean later, byte[] text, int offset) {
            this.name = name;
            this.method = method;
            this.offset = offset;
            flags = later ? 8 : 0;
            content = text;
            if (method == 8) {
                Zip x = Due.holding(text);
                x.pack();
                content = Due.buffer(x);
            }
            crc = Due.crcOf(text);
            size = text.length;
            packedSize = content.length;
            localCrc = later ? 0 : crc;
            localPackedSize = later ? 0 : packedSize;
            localSize = later ? 0 : size;
            behindCrc = crc;
            behindPackedSize = packedSize;
            behindSize = size;
        }

        /** The same with wide numbers in both parts. */
        Item widened() {
            localExtras = Bytes.wides(size, packedSize);
            extras = Bytes.wides(size, packedSize, offset);
            localSize = -1;
            localPackedSize = -1;
            size = -1;
            packedSize = -1;
            offset = -1;
            return this;
        }
    }

    Bytes local(Item e) {
        n(0x04034b50, 4).n(0, 2).n(e.flags, 2).n(e.method, 2).n(0, 4).n(e.localCrc, 4).n(e.localPackedSize, 4)
            .n(e.localSize, 4).n(e.name.length(), 2).n(e.localExtras.length, 2).text(e.name).raw(e.localExtras)
            .raw(e.content);
        if (e.flags == 8) {
            n(0x08074b50, 4).n(e.behindCrc, 4).n(e.behindPackedSize, 4).n(e.behindSize, 4);
        }
        return this;
    }

    Bytes part(Item e) {
        return n(0x02014b50, 4).n(0, 4).n(e.flags, 2).n(e.method, 2).n(0, 4).n(e.crc, 4).n(e.packedSize, 4)
            .n(e.size, 4).n(e.name.length(), 2).n(e.extras.length, 2).n(e.remark.length(), 2).n(0, 8)
            .n(e.offset, 4).text(e.name).raw(e.extras).text(e.remark);
    }

    /** The archive of these entries, each written as it is, from the first byte on. */
    static byte[] archive(String remark, Item... items) {
        Bytes b = new Bytes();
        for (Item e : items) {
            b.local(e);
        }
        return b.directory(remark, items).all();
    }

    /** The directory of these entries here, and the end. */
    Bytes directory(String remark, Item... items) {
        int start = size();
        for (Item e : items) {
            part(e);
        }
        return end(items.length, size() - start, start, remark);
    }
}
