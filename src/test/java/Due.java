/** Counts answers that are not the ones that are due, and ends the test by them. */
final class Due {
    interface Call {
        long run();
    }

    interface Deed {
        void run();
    }

    private int asked = 0;
    private int wrong = 0;

    void same(String what, long got, long want) {
        asked++;
        if (got != want) {
            wrong++;
            System.out.println(what + " answered " + got + ", due is " + want);
        }
    }

    void is(String what, boolean got) {
        same(what, got ? 1 : 0, 1);
    }

    void sameBytes(String what, byte[] got, byte[] want) {
        asked++;
        if (!java.util.Arrays.equals(got, want)) {
            wrong++;
            System.out.println(what + " is " + hex(got) + ", due is " + hex(want));
        }
    }

    void answers(String what, long want, Call call) {
        try {
            same(what, call.run(), want);
        } catch (RuntimeException e) {
            same(what + " threw " + e, 1, 0);
        }
    }

    void throwsDeed(String what, Class<? extends RuntimeException> due, Deed deed) {
        throwsIt(what, due, () -> {
            deed.run();
            return 0;
        });
    }

    void throwsIt(String what, Class<? extends RuntimeException> due, Call call) {
        asked++;
        try {
            long got = call.run();
            wrong++;
            System.out.println(what + " answered " + got + ", due is " + due.getSimpleName());
        } catch (RuntimeException e) {
            if (e.getClass() != due) {
                wrong++;
                System.out.println(what + " threw " + e + ", due is " + due.getSimpleName());
            }
        }
    }

    void finish() {
        System.out.println(asked + " answers, " + wrong + " not as due");
        if (wrong != 0 || asked == 0) {
            System.exit(1);
        }
    }

    static String hex(byte[] bytes) {
        StringBuilder b = new StringBuilder();
        for (byte x : bytes) {
            b.append(String.format("%02x", x & 255));
        }
        return b.toString();
    }

    /** The bytes of the file. */
    static byte[] file(ZipArray x) {
        byte[] all = new byte[x.length()];
        for (int i = 0; i < all.length; i++) {
            all[i] = (byte) x.byteAt(i);
        }
        return all;
    }

    /** The bytes of the buffer. */
    static byte[] buffer(ZipArray x) {
        byte[] all = new byte[x.held()];
        for (int i = 0; i < all.length; i++) {
            all[i] = (byte) x.at(i);
        }
        return all;
    }

    /** An object whose buffer has these bytes. */
    static ZipArray holding(byte[] bytes) {
        ZipArray x = new ZipArray();
        hold(x, bytes);
        return x;
    }

    static void hold(ZipArray x, byte[] bytes) {
        x.clear();
        for (byte b : bytes) {
            x.give(b, 1);
        }
    }

    /** An object whose file has these bytes. */
    static ZipArray lying(byte[] bytes) {
        ZipArray x = new ZipArray();
        lay(x, bytes);
        return x;
    }

    static void lay(ZipArray x, byte[] bytes) {
        x.cut(0);
        for (byte b : bytes) {
            x.put(b, 1);
        }
    }

    static byte[] text(String s) {
        return s.getBytes(java.nio.charset.StandardCharsets.ISO_8859_1);
    }

    static int name(String s) {
        int n = 0;
        for (byte b : text(s)) {
            n = n << 8 | b & 255;
        }
        return n;
    }

    static int crcOf(byte[] bytes) {
        java.util.zip.CRC32 c = new java.util.zip.CRC32();
        c.update(bytes);
        return (int) c.getValue();
    }
}
