import java.util.Arrays;
import java.util.Random;

/** All promises: runs of calls by chance, the same on the class and on the model. */
public final class ModelTest {
    private static final Due due = new Due();
    private static final int[] NAMES = {97, 98, 99, 100, 0x6161, 0x6162, 0x616161, 0x7e7e7e, 33, 101, 102};
    private static final int[] ODD = {Integer.MIN_VALUE, -1, 0, 1, 7, 8, 9, 199, 200, 201, 255, 256, 1599, 1600, 1601,
        Integer.MAX_VALUE};

    private static final int[] seen = new int[1000];

    private final Random random;
    private final Zip x = new Zip();
    private final Model model = new Model();
    private final StringBuilder calls = new StringBuilder();
    // Behind the first answer that is not as due, the two are in two states.
    private boolean apart;

    private ModelTest(long seed) {
        random = new Random(seed);
        calls.append("run ").append(seed).append(": ");
    }

    public static void main(String[] args) {
        int runs = args.length > 0 ? Integer.parseInt(args[0]) : 1000;
        int from = args.length > 1 ? Integer.parseInt(args[1]) : 1;
        for (int seed = from; seed < from + runs; seed++) {
            new ModelTest(seed).run();
        }
        for (int code = 0; code <= 8; code++) {
            due.is("some archive was wrong by " + code, seen[code] > 0);
            due.is("some second entry was wrong by " + code, code < 3 || seen[100 + code] > 0);
        }
        due.is("some packed bytes were right", seen[990] > 100);
        due.is("some packed bytes were wrong", seen[991] > 100);
        due.finish();
    }

    private void run() {
        switch (random.nextInt(5)) {
            case 0:
                packedBytes();
                break;
            case 1:
                lay(built());
                break;
            case 2:
                lay(random.nextBoolean() ? nested() : Arrays.copyOf(built(), random.nextInt(300)));
                break;
            default:
                wide(random.nextInt(3) == 0);
                create();
        }
        int most = 30 + random.nextInt(80);
        // One step makes some 220 changes at most, and there must be calls left to look at the file.
        for (int i = 0; i < most && x.changes() < 240 && !apart; i++) {
            step();
        }
        if (!apart) {
            due.sameBytes(calls + "the file", Due.file(x), file());
            due.sameBytes(calls + "the buffer", Due.buffer(x), buffer());
        }
    }

    private byte[] file() {
        byte[] all = new byte[model.length()];
        for (int i = 0; i < all.length; i++) {
            all[i] = (byte) model.byteAt(i);
        }
        return all;
    }

    private byte[] buffer() {
        byte[] all = new byte[model.held()];
        for (int i = 0; i < all.length; i++) {
            all[i] = (byte) model.at(i);
        }
        return all;
    }

    // ---- one call on both

    private static Object answer(Due.Call call) {
        try {
            return call.run();
        } catch (RuntimeException e) {
            return e.getClass();
        }
    }

    private Object both(String what, Due.Call one, Due.Call other) {
        calls.append(what).append("; ");
        Object got = answer(one);
        Object want = answer(other);
        if (!apart) {
            apart = !got.equals(want);
            due.is(calls + "answered " + got + ", due is " + want, !apart);
        }
        return want;
    }

    private void lay(byte[] bytes) {
        Due.lay(x, bytes);
        model.cut(0);
        for (byte b : bytes) {
            model.put(b, 1);
        }
        calls.append("file ").append(Due.hex(bytes)).append("; ");
    }

    private void hold(byte[] bytes) {
        Due.hold(x, bytes);
        model.clear();
        for (byte b : bytes) {
            model.give(b, 1);
        }
        calls.append("buffer ").append(Due.hex(bytes)).append("; ");
    }

    private void create() {
        both("create", () -> {
            x.create();
            return 0;
        }, () -> {
            model.create();
            return 0;
        });
    }

    private void wide(boolean is) {
        both("wide " + is, () -> {
            x.wide(is);
            return 0;
        }, () -> {
            model.wide(is);
            return 0;
        });
    }

    private void cut(int n) {
        both("cut " + n, () -> {
            x.cut(n);
            return 0;
        }, () -> {
            model.cut(n);
            return 0;
        });
    }

    private void poke(int k, int b) {
        both("poke " + k + " " + b, () -> {
            x.poke(k, b);
            return 0;
        }, () -> {
            model.poke(k, b);
            return 0;
        });
    }

    private void check() {
        Object code = both("check", x::check, model::check);
        seen[(int) (long) (Long) code]++;
    }

    // ---- steps

    private int odd() {
        return ODD[random.nextInt(ODD.length)];
    }

    private int name() {
        return random.nextInt(30) == 0 ? odd() : NAMES[random.nextInt(NAMES.length)];
    }

    private void step() {
        int name = name();
        switch (random.nextInt(22)) {
            case 0: case 1: case 2:
                content();
                add(name);
                break;
            case 3:
                add(name);
                break;
            case 4:
                both("remove " + name, () -> x.remove(name), () -> model.remove(name));
                break;
            case 5: case 6:
                loadOne();
                break;
            case 7:
                both("count", x::count, model::count);
                aboutOne();
                break;
            case 8: case 9: case 10: case 11:
                check();
                break;
            case 12: case 13:
                pokeOne();
                check();
                break;
            case 14: case 15:
                pokeAndBack();
                break;
            case 16:
                fieldAndBack();
                break;
            case 17:
                wide(random.nextBoolean());
                break;
            case 18:
                oddCall();
                break;
            case 19:
                packUnpack();
                break;
            case 20:
                packedBytes();
                break;
            default:
                ends();
        }
    }

    private void content() {
        byte[] bytes = new byte[random.nextInt(random.nextInt(5) == 0 ? 201 : 30)];
        int kinds = 1 + random.nextInt(random.nextInt(4) == 0 ? 256 : 6);
        for (int i = 0; i < bytes.length; i++) {
            bytes[i] = (byte) random.nextInt(kinds);
        }
        hold(bytes);
    }

    private void add(int name) {
        int method = random.nextInt(40) == 0 ? odd() : 8 * random.nextInt(2);
        boolean later = random.nextBoolean();
        both("add " + name + " " + method + " " + later, () -> x.add(name, method, later),
            () -> model.add(name, method, later));
    }

    private void loadOne() {
        int k = random.nextInt(9);
        Object found = answer(() -> model.about(k, 0));
        int name = found instanceof Long ? (int) (long) (Long) found : name();
        both("load " + name, () -> x.load(name), () -> model.load(name));
    }

    private void aboutOne() {
        int k = random.nextInt(20) == 0 ? odd() : random.nextInt(9);
        int what = random.nextInt(20) == 0 ? odd() : random.nextInt(7);
        both("about " + k + " " + what, () -> x.about(k, what), () -> model.about(k, what));
    }

    private int valueFor(int old) {
        switch (random.nextInt(6)) {
            case 0: return old ^ 1 << random.nextInt(8);
            case 1: return old + 1 & 255;
            case 2: return old - 1 & 255;
            case 3: return new int[] {0, 1, 8, 255, 32, 97}[random.nextInt(6)];
            default: return random.nextInt(256);
        }
    }

    private void pokeOne() {
        if (model.length() > 0) {
            int k = random.nextInt(model.length());
            poke(k, valueFor(model.byteAt(k)));
        }
    }

    private void pokeAndBack() {
        if (model.length() == 0) {
            return;
        }
        int k = random.nextInt(model.length());
        int old = model.byteAt(k);
        poke(k, valueFor(old));
        check();
        loadOne();
        both("count", x::count, model::count);
        poke(k, old);
    }

    /** One number of an entry changed wherever it stands, so that the parts still agree. */
    private void fieldAndBack() {
        Object found = answer(() -> model.about(random.nextInt(Math.max(1, count())), 6));
        if (!(found instanceof Long)) {
            return;
        }
        int local = (int) (long) (Long) found;
        int part = -1;
        for (int i = 0; i + 46 < model.length(); i++) {
            if (number(i, 4) == 0x02014b50 && number(i + 42, 4) == local) {
                part = i;
            }
        }
        if (part < 0 || local + 30 > model.length()) {
            return;
        }
        int[][] fields = {{8, 6}, {10, 8}, {16, 14}, {20, 18}, {24, 22}};
        int[] f = fields[random.nextInt(5)];
        int one = model.byteAt(part + f[0]);
        int other = model.byteAt(local + f[1]);
        int value = valueFor(one);
        poke(part + f[0], value);
        poke(local + f[1], value);
        check();
        loadOne();
        poke(part + f[0], one);
        poke(local + f[1], other);
    }

    private int count() {
        Object n = answer(model::count);
        return n instanceof Long ? (int) (long) (Long) n : 0;
    }

    private long number(int place, int n) {
        long v = 0;
        for (int i = n - 1; i >= 0; i--) {
            v = v << 8 | (place + i < model.length() ? model.byteAt(place + i) : 0);
        }
        return v;
    }

    private void oddCall() {
        int a = odd();
        int b = odd();
        int old = model.length() > 0 ? model.byteAt(0) : 0;
        both("at " + a, () -> x.at(a), () -> model.at(a));
        both("byteAt " + a, () -> x.byteAt(a), () -> model.byteAt(a));
        both("about " + a + " " + b, () -> x.about(a, b), () -> model.about(a, b));
        both("give " + a + " " + b, () -> x.give(a, b), () -> model.give(a, b));
        both("fill " + a + " " + b, () -> x.fill(a, b), () -> model.fill(a, b));
        both("crc", x::crc, model::crc);
        both("held", x::held, model::held);
        both("length", x::length, model::length);
        if (a < 0 || a >= model.length() || b < 0 || b > 255) {
            poke(a, b);
        } else {
            poke(0, old);
        }
        if (b < 1 || b > 8) {
            both("put " + a + " " + b, () -> x.put(a, b), () -> model.put(a, b));
        }
        if (a < 0 || a > model.length()) {
            cut(a);
        }
    }

    private void packUnpack() {
        content();
        both("pack", x::pack, model::pack);
        both("crc", x::crc, model::crc);
        both("unpack", x::unpack, model::unpack);
        both("crc", x::crc, model::crc);
    }

    /** Bytes behind the end or off it, a remark, or all anew. */
    private void ends() {
        int n = model.length();
        switch (random.nextInt(6)) {
            case 0:
                create();
                break;
            case 1:
                if (n >= 22 && number(n - 22, 4) == 0x06054b50 && n < 1500) {
                    poke(n - 2, 5);
                    both("put", () -> x.put(0x504b050600L, 5), () -> model.put(0x504b050600L, 5));
                }
                break;
            case 2:
                if (n > 0) {
                    byte[] before = file();
                    cut(n - 1 - random.nextInt(Math.min(n, 30)));
                    check();
                    lay(before);
                }
                break;
            case 3:
                lay(built());
                break;
            case 4:
                lay(nested());
                break;
            default:
                both("put", () -> x.put(7, 3), () -> model.put(7, 3));
        }
        check();
    }

    // ---- packed bytes

    private void packedBytes() {
        byte[] bytes = new byte[random.nextInt(120)];
        int kinds = 1 + random.nextInt(20);
        for (int i = 0; i < bytes.length; i++) {
            bytes[i] = (byte) (random.nextInt(kinds) * random.nextInt(kinds));
        }
        byte[] packed = random.nextInt(3) == 0 ? ownCodes()
            : Bits.deflated(bytes, random.nextInt(10), random.nextInt(3));
        for (int tries = 0; tries < 4; tries++) {
            hold(packed.length > 200 ? Arrays.copyOf(packed, 200) : packed);
            Object got = both("unpack", x::unpack, model::unpack);
            seen[got instanceof Long ? 990 : 991]++;
            both("crc", x::crc, model::crc);
            packed = packed.clone();
            if (packed.length > 0) {
                int k = random.nextInt(packed.length);
                packed[k] = (byte) valueFor(packed[k] & 255);
            }
        }
    }

    /** Blocks of kind 2 by codes of chance, some of them with words to spare or too many. */
    private byte[] ownCodes() {
        Bits bits = new Bits();
        if (random.nextInt(3) == 0) {
            bits.plain(false, new byte[] {1, 2, 3});
        }
        int[] symbols = new int[257 + random.nextInt(32)];
        int[] distances = new int[1 + random.nextInt(32)];
        int base = 2 + random.nextInt(5);
        for (int i = 0; i < 1 << base - 1; i++) {
            symbols[random.nextInt(symbols.length)] = base + random.nextInt(3);
            distances[random.nextInt(distances.length)] = base + random.nextInt(3);
        }
        symbols[256] = base;
        bits.own(true, symbols, distances);
        for (int i = 0; i < 20; i++) {
            int s = random.nextInt(symbols.length);
            if (symbols[s] > 0 && s != 256) {
                bits.symbol(s);
                bits.number(random.nextInt(1 << 10), random.nextInt(10));
            }
        }
        return bits.symbol(256).bytes();
    }

    // ---- archives that add does not write

    private byte[] text(int most) {
        byte[] bytes = new byte[random.nextInt(most)];
        for (int i = 0; i < bytes.length; i++) {
            bytes[i] = (byte) (97 + random.nextInt(3));
        }
        return bytes;
    }

    private byte[] extras() {
        Bytes b = new Bytes();
        for (int i = random.nextInt(3); i > 0; i--) {
            b.raw(Bytes.record(random.nextInt(8) == 0 ? 1 : 2 + random.nextInt(5), text(6)));
        }
        return b.all();
    }

    private Bytes.Item item(String name, int offset) {
        Bytes.Item e = new Bytes.Item(name, 8 * random.nextInt(2), random.nextBoolean(), text(40), offset);
        byte[] localWides = new byte[0];
        if (e.flags == 0 && random.nextInt(3) == 0) {
            localWides = Bytes.wides(e.size, e.packedSize);
            e.localSize = -1;
            e.localPackedSize = -1;
        }
        e.localExtras = new Bytes().raw(localWides).raw(extras()).all();
        Bytes wides = new Bytes();
        if (random.nextInt(3) == 0) {
            wides.n(e.size, 8);
            e.size = -1;
        }
        if (random.nextInt(3) == 0) {
            wides.n(e.packedSize, 8);
            e.packedSize = -1;
        }
        if (random.nextInt(3) == 0) {
            wides.n(e.offset, 8);
            e.offset = -1;
        }
        byte[] record = wides.size() == 0 ? new byte[0] : Bytes.record(1, wides.raw(text(3)).all());
        e.extras = random.nextInt(4) == 0 ? new Bytes().raw(extras()).raw(record).all()
            : new Bytes().raw(record).raw(extras()).all();
        e.remark = new String(text(5), java.nio.charset.StandardCharsets.ISO_8859_1);
        if (random.nextInt(12) == 0) {
            spoil(e);
        }
        return e;
    }

    private void spoil(Bytes.Item e) {
        switch (random.nextInt(8)) {
            case 0: e.behindCrc++; break;
            case 1: e.behindSize++; break;
            case 2: e.crc++; e.behindCrc++; e.localCrc += e.flags == 0 ? 1 : 0; break;
            case 3: e.localSize++; break;
            case 4: e.localPackedSize = -1; break;
            case 5: e.content = Arrays.copyOf(e.content, e.content.length + 1); break;
            case 6: e.name = e.name + "b"; break;
            default: e.size++; e.behindSize++; e.localSize += e.flags == 0 ? 1 : 0;
        }
    }

    private byte[] built() {
        Bytes b = new Bytes().raw(text(4));
        int n = random.nextInt(5);
        Bytes.Item[] items = new Bytes.Item[n];
        for (int i = 0; i < n; i++) {
            items[i] = item("" + (char) (97 + i), b.size());
            b.local(items[i]).raw(random.nextInt(4) == 0 ? text(3) : new byte[0]);
        }
        for (int i = 0; i < n; i++) {
            int j = random.nextInt(n);
            Bytes.Item e = items[i];
            items[i] = items[j];
            items[j] = e;
        }
        return finish(b, items);
    }

    private byte[] finish(Bytes b, Bytes.Item... items) {
        String remark = new String(text(6), java.nio.charset.StandardCharsets.ISO_8859_1);
        if (random.nextBoolean()) {
            return b.directory(remark, items).all();
        }
        int start = b.size();
        for (Bytes.Item e : items) {
            b.part(e);
        }
        return b.wideBefore(items.length, b.size() - start, start).end(random.nextInt(3), random.nextInt(3), -1, remark)
            .all();
    }

    /** An entry in the content of another, now and then with that one's local part wrong. */
    private byte[] nested() {
        Bytes.Item in = new Bytes.Item("i", 0, random.nextBoolean(), text(9), 31 + 3);
        Bytes.Item out = new Bytes.Item("o", 0, random.nextBoolean(), new Bytes().text("...").local(in).all(), 0);
        Bytes.Item next = new Bytes.Item("n", 8, false, text(20), new Bytes().local(out).size());
        if (random.nextInt(3) == 0) {
            out.localCrc++;
        }
        if (random.nextInt(4) == 0) {
            next.offset--;
        }
        Bytes b = new Bytes().local(out).local(next);
        return random.nextBoolean() ? finish(b, out, in, next) : finish(b, next, in, out);
    }
}
