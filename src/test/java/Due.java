/** Counts answers that are not the ones that are due, and ends the test by them. */
final class Due {
    interface Call {
        long run();
    }

    interface Deed {
        void run();
    }

    private int asked = 0;
    private int wrong = 0;
    private String sentence = "";

    /** The words of the document that the answers from here on are of. */
    void sentence(String words) {
        sentence = words;
    }

    private void say(String text) {
        wrong++;
        System.out.println((sentence.isEmpty() ? "" : "'" + sentence + "': ") + text);
    }

    void same(String what, long got, long want) {
        asked++;
        if (got != want) {
            say(what + " answered " + got + ", due is " + want);
        }
    }

    void is(String what, boolean got) {
        same(what, got ? 1 : 0, 1);
    }

    void sameBytes(String what, byte[] got, byte[] want) {
        asked++;
        if (!java.util.Arrays.equals(got, want)) {
            say(what + " is " + hex(got) + ", due is " + hex(want));
        }
    }

    void answers(String what, long want, Call call) {
        try {
            same(what, call.run(), want);
        } catch (RuntimeException e) {
            same(what + " threw " + e, 1, 0);
        }
    }

    void throwsDeed(String what, Class<? extends RuntimeException> due, Deed deed) {
        throwsIt(what, due, () -> {
            deed.run();
            return 0;
        });
    }

    void throwsIt(String what, Class<? extends RuntimeException> due, Call call) {
        asked++;
        try {
            long got = call.run();
            say(what + " answered " + got + ", due is " + due.getSimpleName());
        } catch (RuntimeException e) {
            if (e.getClass() != due) {
                say(what + " threw " + e + ", due is " + due.getSimpleName());
            }
        }
    }

    void finish() {
        System.out.println(asked + " answers, " + wrong + " not as due");
        if (wrong != 0 || asked == 0) {
            System.exit(1);
        }
    }

    static String hex(byte[] bytes) {
        StringBuilder b = new StringBuilder();
        for (byte x : bytes) {
            b.append(String.format("%02x", x & 255));
        }
        return b.toString();
    }

    /** The bytes of the file. */
    static byte[] file(Zip x) {
        byte[] all = new byte[x.length()];
        for (int i = 0; i < all.length; i++) {
            all[i] = (byte) x.byteAt(i);
        }
        return all;
    }

    /** The bytes of the buffer. */
    static byte[] buffer(Zip x) {
        byte[] all = new byte[x.held()];
        for (int i = 0; i < all.length; i++) {
            all[i] = (byte) x.at(i);
        }
        return all;
    }

    /** An object whose buffer has these bytes. */
    static Zip holding(byte[] bytes) {
        Zip x = new Zip();
        hold(x, bytes);
        return x;
    }

    static void hold(Zip x, byte[] bytes) {
        x.clear();
        for (int from = 0; from < bytes.length; from += 8) {
            x.give(highestFirst(bytes, from), Math.min(8, bytes.length - from));
        }
    }

    /** An object whose file has these bytes. */
    static Zip lying(byte[] bytes) {
        Zip x = new Zip();
        lay(x, bytes);
        return x;
    }

    static void lay(Zip x, byte[] bytes) {
        x.cut(0);
        for (int from = 0; from < bytes.length; from += 8) {
            x.put(highestFirst(bytes, from), Math.min(8, bytes.length - from));
        }
    }

    // Eight bytes by one call: an object is good for 512 calls, and a file has 1600 bytes.
    private static long highestFirst(byte[] bytes, int from) {
        long number = 0;
        for (int i = from; i < from + 8 && i < bytes.length; i++) {
            number = number << 8 | bytes[i] & 255;
        }
        return number;
    }

    /** So many bytes, one like the other. */
    static byte[] times(int b, int n) {
        byte[] all = new byte[n];
        java.util.Arrays.fill(all, (byte) b);
        return all;
    }

    /** So many bytes from low on, up to 112 of them each another one, in which nothing repeats. */
    static byte[] noRepeats(int low, int n) {
        byte[] all = new byte[n];
        for (int i = 0; i < n; i++) {
            all[i] = (byte) (low + (i < 112 ? i : 111 - 3 * (i - 112) % 112));
        }
        return all;
    }

    static byte[] text(String s) {
        return s.getBytes(java.nio.charset.StandardCharsets.ISO_8859_1);
    }

    static int name(String s) {
        int n = 0;
        for (byte b : text(s)) {
            n = n << 8 | b & 255;
        }
        return n;
    }

    static int crcOf(byte[] bytes) {
        java.util.zip.CRC32 c = new java.util.zip.CRC32();
        c.update(bytes);
        return (int) c.getValue();
    }
}
