import java.util.Arrays;
import java.util.NoSuchElementException;
import java.util.function.Supplier;

/** The boundary cases of promises 10 to 16, sentence by sentence. */
public final class ArchiveEdgesTest {
    private static final Due due = new Due();
    private static final byte[] TEXT = Due.text("text and text");
    private static final int[] FAR = {Integer.MIN_VALUE, Integer.MIN_VALUE + 1, Integer.MAX_VALUE - 1,
        Integer.MAX_VALUE};

    public static void main(String[] args) {
        noArchive();
        createWhateverThereWas();
        wideEnds();
        wideEntries();
        wideFromNowOn();
        addHowMany();
        addInPlace();
        addKeepsBytes();
        addSizes();
        addNames();
        addMethods();
        addMoreThanEight();
        addMoreThan1600();
        removeHowMany();
        removeNone();
        removeMoreThan1600();
        loadSizes();
        loadNone();
        loadWrong();
        countHowMany();
        aboutNoEntry();
        aboutNothing();
        due.finish();
    }

    private static Bytes.Item item(String name, byte[] content, int offset) {
        return new Bytes.Item(name, 0, false, content, offset);
    }

    /** An archive of so many entries, "a", "b" .., and something in the buffer. */
    private static Supplier<Zip> entries(int n) {
        return () -> {
            Zip x = Due.holding(TEXT);
            x.create();
            for (int i = 0; i < n; i++) {
                x.add(97 + i, i % 2 * 8, i % 3 == 0);
            }
            return x;
        };
    }

    /** A file without entries in which these bytes stand before the end. */
    private static Zip junk(int bytes, String remark) {
        Zip x = Due.lying(new Bytes().raw(Due.times(1, bytes)).end(0, 0, bytes, remark).all());
        Due.hold(x, TEXT);
        return x;
    }

    private static void noArchive() {
        due.sentence("UnsupportedOperationException: of the archive 1 or 2 is wrong");
        byte[] right = Due.file(entries(2).get());
        byte[] two = right.clone();
        two[right.length - 22 + 8] = 3;
        byte[] full = Due.times(7, 1600);
        byte[] fullTwo = new Bytes().raw(new byte[1578]).end(0, 1, 1578, "").all();
        for (byte[] file : new byte[][] {{}, Arrays.copyOf(right, right.length - 1), two, full, fullTwo}) {
            Supplier<Zip> made = () -> {
                Zip x = Due.lying(file);
                x.fill(5, 200);
                return x;
            };
            due.same("wrong by", made.get().check(), file == two || file == fullTwo ? 2 : 1);
            new Refusal(due, made)
                .of("add", UnsupportedOperationException.class, x -> x.add(97, 0, false))
                .of("it comes first: add, no name", UnsupportedOperationException.class, x -> x.add(0, 0, false))
                .of("it comes first: add, no method", UnsupportedOperationException.class, x -> x.add(97, 1, false))
                .of("it comes first: add, neither", UnsupportedOperationException.class, x -> x.add(-1, -1, true))
                .of("remove", UnsupportedOperationException.class, x -> x.remove(97))
                .of("it comes first: remove, no name", UnsupportedOperationException.class, x -> x.remove(0))
                .of("load", UnsupportedOperationException.class, x -> x.load(97))
                .of("it comes first: load, no name", UnsupportedOperationException.class, x -> x.load(0))
                .of("count", UnsupportedOperationException.class, Zip::count)
                .of("about", UnsupportedOperationException.class, x -> x.about(0, 0))
                .of("it comes first: about, no entry", UnsupportedOperationException.class, x -> x.about(-1, 0))
                .of("it comes first: about, nothing", UnsupportedOperationException.class, x -> x.about(0, 7))
                .of("it comes first: about, neither", UnsupportedOperationException.class, x -> x.about(9, -1));
        }
        due.sentence("UnsupportedOperationException: of the archive 1 or 2 is wrong, and not 3 to 8");
        for (int k : new int[] {0, 31}) {
            Zip x = entries(2).get();
            x.poke(k, 0);
            due.same("wrong by", x.check(), k == 0 ? 3 : 8);
            due.answers("count", 2, x::count);
            due.answers("about", 97, () -> x.about(0, 0));
            due.answers("load of the other", TEXT.length, () -> x.load(98));
            due.answers("add", 3, () -> x.add(99, 0, false));
            due.answers("add in place", 3, () -> x.add(98, 0, false));
            due.answers("remove", 2, () -> x.remove(97));
        }
    }

    private static void createWhateverThereWas() {
        due.sentence("The file is an archive without entries: an end whose other numbers are 0, wide or not");
        byte[] end = new Bytes().end(0, 0, 0, "").all();
        byte[] wide = new Bytes().wideBefore(0, 0, 0).end(65535, -1, -1, "").all();
        for (int n : new int[] {0, 21, 22, 97, 98, 1600}) {
            Zip x = Due.lying(Due.times(9, n));
            x.fill(4, 7);
            x.create();
            due.sameBytes("behind " + n + " bytes", Due.file(x), end);
            x.wide(true);
            x.create();
            due.sameBytes("wide", Due.file(x), wide);
            due.same("wide", x.check(), 0);
            due.same("wide", x.count(), 0);
            x.create();
            due.sameBytes("wide again", Due.file(x), wide);
            due.same("the buffer stays", x.held(), 7);
            x.wide(false);
            x.create();
            due.sameBytes("not wide again", Due.file(x), end);
            due.same("not wide again", x.check(), 0);
        }
        Zip y = entries(8).get();
        y.create();
        due.sameBytes("in place of eight entries", Due.file(y), end);
        due.same("count", y.count(), 0);
        Zip z = junk(5, "remark");
        z.create();
        due.sameBytes("no remark", Due.file(z), end);
    }

    private static byte[] wideArchive(Bytes locals, String remark, Bytes.Item... items) {
        int start = locals.size();
        for (Bytes.Item e : items) {
            locals.part(e);
        }
        return locals.wideBefore(items.length, locals.size() - start, start).end(65535, -1, -1, remark).all();
    }

    private static void wideEnds() {
        due.sentence("an end with wide offset, both counts 65535, and the size of the directory -1");
        Bytes.Item a = item("a", TEXT, 0);
        Zip x = Due.lying(Bytes.archive("rem", a));
        x.wide(true);
        due.sameBytes("wide changes nothing yet", Due.file(x), Bytes.archive("rem", a));
        due.same("remove", x.remove(97), 0);
        due.sameBytes("the end of an empty directory", Due.file(x), wideArchive(new Bytes().local(a), "rem"));
        Zip y = Due.lying(Bytes.archive("rem", a));
        y.wide(true);
        Due.hold(y, TEXT);
        due.same("add with flags 8", y.add(98, 0, true), 2);
        Bytes.Item b = new Bytes.Item("b", 0, true, TEXT, 31 + TEXT.length);
        due.sameBytes("the entry is not wide, the end is", Due.file(y),
            wideArchive(new Bytes().local(a).local(b), "rem", a, b));
    }

    private static void wideEntries() {
        due.sentence("entries with flags 0, are written wide: with wide packed size and size in both parts (offset in the "
            + "directory's, too) and extras of one record of kind 1");
        for (int method : new int[] {0, 8}) {
            for (byte[] content : new byte[][] {{}, TEXT, Due.times(200, 200)}) {
                for (String name : new String[] {"!", "~~", "abc"}) {
                    Zip x = Due.holding(content);
                    x.create();
                    x.wide(true);
                    due.same("add", x.add(Due.name(name), method, false), 1);
                    Bytes.Item e = new Bytes.Item(name, method, false, content, 0);
                    int packed = (int) e.packedSize;
                    e.widened();
                    due.sameBytes("a wide one", Due.file(x), wideArchive(new Bytes().local(e), "", e));
                    due.same("check", x.check(), 0);
                    due.same("packed size", x.about(0, 4), packed);
                    due.same("size", x.about(0, 5), content.length);
                    due.same("offset", x.about(0, 6), 0);
                    x.clear();
                    due.same("load", x.load(Due.name(name)), content.length);
                    due.sameBytes("load", Due.buffer(x), content);
                    Zip y = Due.holding(content);
                    y.wide(true);
                    y.create();
                    due.same("add with flags 8", y.add(Due.name(name), method, true), 1);
                    Bytes.Item later = new Bytes.Item(name, method, true, content, 0);
                    due.sameBytes("with flags 8", Due.file(y), wideArchive(new Bytes().local(later), "", later));
                    due.same("check", y.check(), 0);
                }
            }
        }
    }

    private static void wideFromNowOn() {
        due.sentence("Whether ends, and entries with flags 0, are written wide from now on");
        Zip x = Due.holding(TEXT);
        x.create();
        x.add(97, 0, false);
        x.wide(true);
        x.add(98, 0, false);
        x.wide(true);
        x.wide(false);
        x.wide(false);
        x.add(99, 0, false);
        int n = TEXT.length;
        Bytes.Item a = item("a", TEXT, 0);
        Bytes.Item b = item("b", TEXT, 31 + n).widened();
        Bytes.Item c = item("c", TEXT, 31 + n + 51 + n);
        due.sameBytes("not wide, wide, not wide", Due.file(x),
            new Bytes().local(a).local(b).local(c).directory("", a, b, c).all());
        x.wide(true);
        due.same("in place of one that was not wide", x.add(97, 0, false), 3);
        Bytes.Item again = item("a", TEXT, 31 + n + 51 + n + 31 + n).widened();
        due.sameBytes("parts stay as they are", Due.file(x),
            wideArchive(new Bytes().local(a).local(b).local(c).local(again), "", b, c, again));
        x.wide(false);
        due.same("remove", x.remove(99), 2);
        due.sameBytes("an end that is not wide", Due.file(x),
            new Bytes().local(a).local(b).local(c).local(again).directory("", b, again).all());
        due.same("check", x.check(), 0);
    }

    private static void addHowMany() {
        due.sentence("Puts the buffer as an entry into the archive ...: how many entries there are");
        Zip x = Due.holding(TEXT);
        x.create();
        for (int i = 1; i <= 8; i++) {
            due.same("add", x.add(96 + i, 0, false), i);
            due.same("count", x.count(), i);
            due.same("it is the last one", x.about(i - 1, 0), 96 + i);
        }
        due.same("in place of the first", x.add(97, 0, false), 8);
        due.same("it is the last one", x.about(7, 0), 97);
        due.same("the others have moved up", x.about(0, 0), 98);
        due.sameBytes("the buffer stays", Due.buffer(x), TEXT);
    }

    private static void addInPlace() {
        due.sentence("in place of the one with this name, if there is one");
        for (int name : new int[] {97, 98, 99}) {
            Zip x = entries(3).get();
            byte[] before = Due.file(x);
            int start = before.length - 22 - 3 * 47;
            Due.hold(x, Due.text("new"));
            due.same("in place of " + name, x.add(name, 0, false), 3);
            byte[] after = Due.file(x);
            due.sameBytes("bytes up to the directory", Arrays.copyOf(after, start), Arrays.copyOf(before, start));
            due.same("the new one is the last", x.about(2, 0), name);
            due.same("it lies where the directory began", x.about(2, 6), start);
            due.same("load", x.load(name), 3);
            due.same("check", x.check(), 0);
        }
        Zip y = entries(1).get();
        due.same("a name that begins in the same way", y.add(0x6161, 0, false), 2);
        due.same("a name that ends in the same way", y.add(0x6261, 0, false), 3);
        due.same("the same name", y.add(0x6161, 0, false), 3);
        due.same("the only one", entries(1).get().add(97, 8, true), 1);
    }

    private static void addKeepsBytes() {
        due.sentence("The file keeps its bytes up to the directory's beginning; ... then an end with the remark that was there");
        for (String remark : new String[] {"", "r", "a long remark, ".repeat(12)}) {
            for (boolean wide : new boolean[] {false, true}) {
                Zip x = junk(9, remark);
                x.wide(wide);
                due.same("add", x.add(97, 0, true), 1);
                Bytes.Item a = new Bytes.Item("a", 0, true, TEXT, 9);
                Bytes locals = new Bytes().raw(Due.times(1, 9)).local(a);
                due.sameBytes("with a remark of " + remark.length(), Due.file(x),
                    wide ? wideArchive(locals, remark, a) : locals.directory(remark, a).all());
            }
        }
        due.sentence("Numbers without a meaning are 0");
        Bytes.Item a = item("a", TEXT, 0);
        byte[] old = Bytes.archive("", a);
        int end = old.length - 22;
        for (int i = 4; i < 8; i++) {
            old[end + i] = 9;
        }
        Zip x = Due.lying(old);
        due.same("check", x.check(), 0);
        due.same("add", x.add(98, 0, false), 2);
        Bytes.Item b = item("b", new byte[0], 31 + TEXT.length);
        due.sameBytes("in a new end", Due.file(x), Bytes.archive("", a, b));
    }

    private static void addSizes() {
        due.sentence("CRC and SIZE (0 .. 200) of its content, and its PACKED SIZE");
        for (int n : new int[] {0, 1, 199, 200}) {
            for (int method : new int[] {0, 8}) {
                for (boolean later : new boolean[] {false, true}) {
                    byte[] content = Due.noRepeats(144, n);
                    Zip x = Due.holding(content);
                    x.create();
                    due.answers("add of " + n, 1, () -> x.add(97, method, later));
                    due.same("size", x.about(0, 5), n);
                    due.same("packed size", x.about(0, 4), method == 0 ? n : (10 + 9 * n + 7) / 8);
                    due.same("flags", x.about(0, 1), later ? 8 : 0);
                    due.same("method", x.about(0, 2), method);
                    due.same("CRC", x.about(0, 3), Due.crcOf(content));
                    due.same("check", x.check(), 0);
                    x.clear();
                    due.answers("load of " + n, n, () -> x.load(97));
                    due.sameBytes("load of " + n, Due.buffer(x), content);
                }
            }
        }
    }

    private static void addNames() {
        due.sentence("a NAME (1 .. 3 bytes 33 .. 126; ...); IllegalArgumentException: the name is none");
        for (int name : new int[] {33, 126, 33 << 8 | 33, 126 << 8 | 126, 33 << 8 | 126, 0x212121, 0x7e7e7e, 0x217e21}) {
            Zip x = entries(0).get();
            due.answers("name " + name, 1, () -> x.add(name, 0, false));
            due.answers("name " + name, name, () -> x.about(0, 0));
            int bytes = name > 0xffff ? 3 : name > 0xff ? 2 : 1;
            due.answers("bytes of " + name, bytes, () -> x.byteAt(26));
            due.answers("the first byte", name >> 8 * (bytes - 1) & 255, () -> x.byteAt(30));
            due.answers("the last byte", name & 255, () -> x.byteAt(29 + bytes));
        }
        Refusal few = new Refusal(due, entries(2));
        Refusal eight = new Refusal(due, entries(8));
        for (int name : new int[] {0, 32, 127, 128, 255, 33 << 8, 33 << 8 | 32, 33 << 8 | 127, 32 << 8 | 33, 127 << 8 | 33,
            0x212120, 0x21217f, 0x212021, 0x217f21, 0x202121, 0x7f2121, 0x210021, 0x212100, 0x21212121, 0x7e000000,
            0x21000061, 0x1000061, -1, -97, 0xa1a1a1, 0xffffff, FAR[0], FAR[1], FAR[2], FAR[3]}) {
            few.of("name " + name, IllegalArgumentException.class, x -> x.add(name, 0, false));
            eight.of("it comes first: name " + name + " to eight", IllegalArgumentException.class,
                x -> x.add(name, 8, true));
        }
    }

    private static void addMethods() {
        due.sentence("IllegalArgumentException: ... method not 0 or 8");
        due.answers("0", 3, () -> entries(2).get().add(0x7878, 0, false));
        due.answers("8", 3, () -> entries(2).get().add(0x7878, 8, false));
        Refusal few = new Refusal(due, entries(2));
        Refusal eight = new Refusal(due, entries(8));
        for (int method : new int[] {-1, 1, 2, 7, 9, 16, -8, 256, 8 + 256, FAR[0], FAR[1], FAR[2], FAR[3]}) {
            few.of("method " + method, IllegalArgumentException.class, x -> x.add(0x7878, method, false));
            few.of("method " + method + " in place", IllegalArgumentException.class, x -> x.add(97, method, true));
            eight.of("it comes first: method " + method + " to eight", IllegalArgumentException.class,
                x -> x.add(0x7878, method, false));
        }
        new Refusal(due, () -> junk(1578, "")).of("it comes first: method and no room", IllegalArgumentException.class,
            x -> x.add(97, 1, false));
        new Refusal(due, () -> junk(1578, "")).of("it comes first: name and no room", IllegalArgumentException.class,
            x -> x.add(32, 0, false));
    }

    private static void addMoreThanEight() {
        due.sentence("IllegalStateException: there would be more than 8 entries");
        due.answers("the eighth", 8, () -> entries(7).get().add(0x7878, 8, false));
        Refusal eight = new Refusal(due, entries(8));
        for (int method : new int[] {0, 8}) {
            eight.of("the ninth", IllegalStateException.class, x -> x.add(0x7878, method, false));
            eight.of("the ninth with flags 8", IllegalStateException.class, x -> x.add(105, method, true));
        }
        new Refusal(due, () -> {
            Zip x = entries(8).get();
            x.clear();
            x.wide(true);
            return x;
        }).of("the ninth, wide and empty", IllegalStateException.class, x -> x.add(105, 0, false));
        for (int i = 0; i < 8; i++) {
            int name = 97 + i;
            due.answers("in place of one of eight", 8, () -> entries(8).get().add(name, 0, false));
        }
        Zip y = entries(8).get();
        y.remove(100);
        due.answers("one less, one more", 8, () -> y.add(0x7878, 0, false));
    }

    private static void addMoreThan1600() {
        due.sentence("IllegalStateException: there would be more than ... 1600 bytes");
        for (boolean wide : new boolean[] {false, true}) {
            for (boolean later : new boolean[] {false, true}) {
                for (int method : new int[] {0, 8}) {
                    for (String name : new String[] {"a", "abc"}) {
                        for (String remark : new String[] {"", "remark"}) {
                            roomFor(wide, later, method, name, remark);
                        }
                    }
                }
            }
        }
        roomInPlace();
    }

    private static void roomFor(boolean wide, boolean later, int method, String name, String remark) {
        int packed = method == 0 ? TEXT.length : Due.holding(TEXT).pack();
        int local = 30 + name.length() + packed + (later ? 16 : wide ? 20 : 0);
        int part = 46 + name.length() + (wide && !later ? 28 : 0);
        int before = 1600 - local - part - (wide ? 98 : 22) - remark.length();
        String what = name + " " + method + " " + later + " " + wide + " " + remark;
        Supplier<Zip> just = () -> wide(junk(before, remark), wide);
        Zip x = just.get();
        due.answers("just 1600: " + what, 1, () -> x.add(Due.name(name), method, later));
        due.same("length: " + what, x.length(), 1600);
        due.same("check: " + what, x.check(), 0);
        new Refusal(due, () -> wide(junk(before + 1, remark), wide)).of("1601: " + what, IllegalStateException.class,
            y -> y.add(Due.name(name), method, later));
    }

    private static Zip wide(Zip x, boolean is) {
        x.wide(is);
        return x;
    }

    /** The part that goes makes room for the new one, the content that stays does not. */
    private static void roomInPlace() {
        Bytes.Item a = item("a", TEXT, 0);
        for (int over = 0; over <= 1; over++) {
            byte[] junk = Due.times(3, 1600 - 2 * (31 + TEXT.length) - 47 - 22 + over);
            Supplier<Zip> made = () -> {
                Zip x = Due.lying(new Bytes().local(a).raw(junk).directory("", a).all());
                Due.hold(x, TEXT);
                return x;
            };
            if (over == 0) {
                Zip x = made.get();
                due.answers("just 1600 in place", 1, () -> x.add(97, 0, false));
                due.same("length", x.length(), 1600);
                due.same("check", x.check(), 0);
            } else {
                new Refusal(due, made).of("1601 in place", IllegalStateException.class, x -> x.add(97, 0, false));
            }
        }
    }

    private static void removeHowMany() {
        due.sentence("Takes an entry out of the directory, which is written anew at its place, and an end behind it");
        for (int n = 1; n <= 8; n++) {
            for (int k = 0; k < n; k++) {
                Zip x = entries(n).get();
                byte[] before = Due.file(x);
                int start = before.length - 22 - 47 * n;
                due.same("remove " + k + " of " + n, x.remove(97 + k), n - 1);
                Bytes want = new Bytes().raw(Arrays.copyOf(before, start + 47 * k))
                    .raw(Arrays.copyOfRange(before, start + 47 * k + 47, start + 47 * n));
                due.sameBytes("remove " + k + " of " + n, Due.file(x), want.end(n - 1, 47 * (n - 1), start, "").all());
                due.same("check", x.check(), 0);
                due.same("count", x.count(), n - 1);
                due.sameBytes("the buffer stays", Due.buffer(x), TEXT);
            }
        }
    }

    private static void removeNone() {
        due.sentence("NoSuchElementException: there is none of that name");
        Refusal few = new Refusal(due, entries(2));
        for (int name : new int[] {96, 99, 0x6161, 0x616161, 97 << 8, 97 << 16, 0x61000061, 97 + 256, 0, 32, 127, -1, -97,
            FAR[0], FAR[1], FAR[2], FAR[3]}) {
            few.of("remove " + name, NoSuchElementException.class, x -> x.remove(name));
            new Refusal(due, entries(0)).of("remove " + name + " of none", NoSuchElementException.class,
                x -> x.remove(name));
        }
        due.answers("the first", 1, () -> entries(2).get().remove(97));
        due.answers("the last", 1, () -> entries(2).get().remove(98));
        new Refusal(due, () -> {
            Zip x = entries(2).get();
            x.remove(97);
            return x;
        }).of("one that is gone", NoSuchElementException.class, x -> x.remove(97));
    }

    private static void removeMoreThan1600() {
        due.sentence("IllegalStateException: there would be more than 1600 bytes");
        Bytes.Item a = item("a", TEXT, 0);
        for (String remark : new String[] {"", "remark"}) {
            for (int over = -1; over <= 1; over++) {
                // What goes is a part of 47 bytes, what comes are 76 before the end.
                byte[] junk = Due.times(3, 1600 - 31 - TEXT.length - 98 - remark.length() + over);
                Supplier<Zip> made = () -> {
                    Zip x = Due.lying(new Bytes().local(a).raw(junk).directory(remark, a).all());
                    Due.hold(x, TEXT);
                    x.wide(true);
                    return x;
                };
                Zip x = made.get();
                if (over <= 0) {
                    due.answers("just 1600", 0, () -> x.remove(97));
                    due.same("length", x.length(), 1600 + over);
                    due.same("check", x.check(), 0);
                } else {
                    new Refusal(due, made).of("1601", IllegalStateException.class, y -> y.remove(97))
                        .of("none of that name comes first", NoSuchElementException.class, y -> y.remove(98));
                    x.wide(false);
                    due.answers("if it is not wide", 0, () -> x.remove(97));
                }
            }
        }
    }

    private static void loadSizes() {
        due.sentence("The buffer becomes the content of an entry: how many bytes");
        for (int n : new int[] {0, 1, 199, 200}) {
            for (int held : new int[] {0, 200}) {
                Zip x = Due.holding(Due.noRepeats(100, n));
                x.create();
                x.add(97, 0, false);
                x.add(98, 8, true);
                x.clear();
                if (held > 0) {
                    x.fill(1, held);
                }
                due.answers("stored, " + n, n, () -> x.load(97));
                due.sameBytes("stored, " + n, Due.buffer(x), Due.noRepeats(100, n));
                x.clear();
                due.answers("packed, " + n, n, () -> x.load(98));
                due.sameBytes("packed, " + n, Due.buffer(x), Due.noRepeats(100, n));
            }
        }
    }

    private static void loadNone() {
        due.sentence("NoSuchElementException: there is none of that name");
        Refusal few = new Refusal(due, entries(2));
        Refusal wrong = new Refusal(due, () -> {
            Zip x = entries(2).get();
            x.poke(0, 0);
            x.poke(40, 0);
            return x;
        });
        for (int name : new int[] {96, 99, 0x6161, 97 << 8, 97 << 16, 0x61000061, 97 + 256, 0, 32, 127, -1, FAR[0], FAR[3]}) {
            few.of("load " + name, NoSuchElementException.class, x -> x.load(name));
            new Refusal(due, entries(0)).of("load " + name + " of none", NoSuchElementException.class, x -> x.load(name));
            wrong.of("it comes first: load " + name + " beside wrong ones", NoSuchElementException.class,
                x -> x.load(name));
        }
    }

    private static void loadWrong() {
        due.sentence("ArithmeticException: something of it (3 to 8) is wrong");
        Bytes.Item a = item("a", TEXT, 0);
        Bytes.Item b = new Bytes.Item("b", 8, true, TEXT, 31 + TEXT.length);
        byte[] right = Bytes.archive("", a, b);
        int second = 31 + TEXT.length;
        int behind = second + 31 + b.content.length;
        int part = behind + 16 + 47;
        // The byte, what it becomes, what is wrong then.
        int[][] turns = {{second, 0, 103}, {second + 6, 0, 103}, {second + 31, right[second + 31] | 6, 106},
            {behind, 0, 105}, {behind + 12, TEXT.length + 1, 105}};
        for (int[] turn : turns) {
            Supplier<Zip> made = () -> {
                Zip x = Due.lying(right);
                x.fill(9, 9);
                x.poke(turn[0], turn[1] & 255);
                return x;
            };
            due.same("wrong by", made.get().check(), turn[2]);
            new Refusal(due, made).of("load of one that is wrong by " + turn[2], ArithmeticException.class,
                x -> x.load(98));
            due.answers("the one before is right", TEXT.length, () -> made.get().load(97));
        }
        int[][][] more = {
            {{part + 24, TEXT.length - 1}, {behind + 12, TEXT.length - 1}},
            {{part + 16, right[part + 16] ^ 1}, {behind + 4, right[behind + 4] ^ 1}},
            {{part + 20, right[part + 20] + 1}, {part + 20, right[part + 20] + 1}}};
        int[] codes = {107, 108, 104};
        for (int i = 0; i < more.length; i++) {
            int[][] turn = more[i];
            Supplier<Zip> made = () -> {
                Zip x = Due.lying(right);
                x.fill(9, 9);
                x.poke(turn[0][0], turn[0][1] & 255);
                x.poke(turn[1][0], turn[1][1] & 255);
                return x;
            };
            due.same("wrong by", made.get().check(), codes[i]);
            new Refusal(due, made).of("load of one that is wrong by " + codes[i], ArithmeticException.class,
                x -> x.load(98));
        }
        Zip first = Due.lying(right);
        first.poke(0, 0);
        due.same("wrong by", first.check(), 3);
        due.throwsIt("the first is wrong", ArithmeticException.class, () -> first.load(97));
        due.answers("the second is right", TEXT.length, () -> first.load(98));
    }

    private static void countHowMany() {
        due.sentence("How many entries there are");
        for (int n = 0; n <= 8; n++) {
            due.same("count", entries(n).get().count(), n);
        }
        Zip x = entries(8).get();
        for (int n = 7; n >= 0; n--) {
            x.remove(97 + n);
            due.same("count", x.count(), n);
        }
    }

    private static void aboutNoEntry() {
        due.sentence("IndexOutOfBoundsException: there is no such entry");
        for (int n : new int[] {0, 1, 7, 8}) {
            Refusal some = new Refusal(due, entries(n));
            for (int k : new int[] {-1, n, n + 1, 8, 9, FAR[0], FAR[1], FAR[2], FAR[3]}) {
                some.of("entry " + k + " of " + n, IndexOutOfBoundsException.class, x -> x.about(k, 0));
                some.of("it comes first: entry " + k + ", what 7", IndexOutOfBoundsException.class, x -> x.about(k, 7));
                some.of("it comes first: entry " + k + ", what -1", IndexOutOfBoundsException.class, x -> x.about(k, -1));
            }
            for (int k = 0; k < n; k++) {
                int one = k;
                due.answers("entry " + k + " of " + n, 97 + k, () -> entries(n).get().about(one, 0));
            }
        }
        Zip x = entries(8).get();
        x.remove(97);
        due.answers("the last of seven", 104, () -> x.about(6, 0));
        due.throwsIt("one that was there before", IndexOutOfBoundsException.class, () -> x.about(7, 0));
    }

    private static void aboutNothing() {
        due.sentence("its name (0), ..., offset (6). IllegalArgumentException: what is none of these");
        Zip x = entries(2).get();
        due.answers("0", 98, () -> x.about(1, 0));
        due.answers("6", 31 + TEXT.length + 16, () -> x.about(1, 6));
        Refusal two = new Refusal(due, entries(2));
        for (int what : new int[] {-1, 7, 8, 100, FAR[0], FAR[1], FAR[2], FAR[3]}) {
            two.of("what " + what, IllegalArgumentException.class, y -> y.about(0, what));
            two.of("what " + what + " of the last", IllegalArgumentException.class, y -> y.about(1, what));
        }
    }
}
