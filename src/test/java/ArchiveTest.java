import java.io.ByteArrayInputStream;
import java.io.IOException;
import java.util.Arrays;
import java.util.NoSuchElementException;
import java.util.zip.ZipEntry;
import java.util.zip.ZipInputStream;

/** Promises 10 to 16: create, wide, add, remove, load, count, about. */
public final class ArchiveTest {
    private static final Due due = new Due();
    private static final byte[] HELLO = Due.text("hello hello hello");

    public static void main(String[] args) throws IOException {
        create();
        wide();
        add();
        addInPlaceOfAnother();
        addKeepsWhatIsThere();
        addNames();
        addLimits();
        remove();
        removeLimits();
        load();
        count();
        about();
        noArchive();
        theLibraryReadsIt();
        asTheReadmeSays();
        due.finish();
    }

    private static void create() {
        Zip x = new Zip();
        x.fill(3, 4);
        x.create();
        due.sameBytes("create", Due.file(x), new Bytes().end(0, 0, 0, "").all());
        due.same("create leaves the buffer", x.held(), 4);
        due.same("check", x.check(), 0);
        x.add(97, 0, false);
        x.put(5, 1);
        x.create();
        due.sameBytes("create again", Due.file(x), new Bytes().end(0, 0, 0, "").all());
        x.wide(true);
        x.create();
        due.sameBytes("create wide", Due.file(x), wideEnd(new Bytes(), 0, 0, 0, ""));
        due.same("length wide", x.length(), 98);
        due.same("check wide", x.check(), 0);
        x.wide(false);
        x.create();
        due.same("length not wide", x.length(), 22);
    }

    private static byte[] wideEnd(Bytes b, int entries, int size, int offset, String remark) {
        return b.wideBefore(entries, size, offset).end(65535, -1, -1, remark).all();
    }

    private static void wide() {
        Zip x = Due.holding(HELLO);
        x.create();
        x.wide(true);
        due.same("wide leaves the file", x.length(), 22);
        due.same("add", x.add(Due.name("ab"), 8, false), 1);
        Bytes.Item one = new Bytes.Item("ab", 8, false, HELLO, 0).widened();
        Bytes b = new Bytes().local(one);
        int start = b.size();
        b.part(one);
        due.sameBytes("add wide", Due.file(x), wideEnd(b, 1, b.size() - start, start, ""));
        due.same("check", x.check(), 0);
        due.same("add later", x.add(Due.name("c"), 0, true), 2);
        Bytes.Item two = new Bytes.Item("c", 0, true, HELLO, start);
        b = new Bytes().local(one).local(two);
        start = b.size();
        b.part(one).part(two);
        due.sameBytes("add later, wide", Due.file(x), wideEnd(b, 2, b.size() - start, start, ""));
        x.wide(false);
        due.same("add not wide", x.add(Due.name("d"), 0, false), 3);
        Bytes.Item three = new Bytes.Item("d", 0, false, HELLO, start);
        b = new Bytes().local(one).local(two).local(three);
        start = b.size();
        b.part(one).part(two).part(three);
        due.sameBytes("add not wide", Due.file(x), b.end(3, b.size() - start, start, "").all());
        due.same("check", x.check(), 0);
        x.wide(true);
        due.same("remove wide", x.remove(Due.name("c")), 2);
        b = new Bytes().local(one).local(two).local(three).part(one).part(three);
        due.sameBytes("remove wide", Due.file(x), wideEnd(b, 2, b.size() - start, start, ""));
        due.same("check", x.check(), 0);
        due.same("load wide", x.load(Due.name("ab")), HELLO.length);
        due.same("about wide", x.about(0, 4), new Bytes.Item("ab", 8, false, HELLO, 0).packedSize);
        due.same("about wide", x.about(0, 5), HELLO.length);
        due.same("about wide", x.about(0, 6), 0);
    }

    private static void add() {
        for (int method = 0; method <= 8; method += 8) {
            for (boolean later : new boolean[] {false, true}) {
                for (String name : new String[] {"a", "!~", "xyz"}) {
                    Zip x = Due.holding(HELLO);
                    x.create();
                    due.same("add", x.add(Due.name(name), method, later), 1);
                    Bytes.Item e = new Bytes.Item(name, method, later, HELLO, 0);
                    due.sameBytes("add " + name + method + later, Due.file(x), Bytes.archive("", e));
                    due.sameBytes("add leaves the buffer", Due.buffer(x), HELLO);
                    due.same("check", x.check(), 0);
                }
            }
        }
        Zip x = new Zip();
        x.create();
        due.same("add of nothing", x.add(97, 0, false), 1);
        due.same("add of nothing, packed", x.add(98, 8, true), 2);
        due.sameBytes("nothing", Due.file(x), Bytes.archive("", new Bytes.Item("a", 0, false, new byte[0], 0),
            new Bytes.Item("b", 8, true, new byte[0], 31)));
        due.same("check", x.check(), 0);
    }

    private static void addInPlaceOfAnother() {
        Zip x = Due.holding(HELLO);
        x.create();
        x.add(97, 0, false);
        x.add(98, 8, false);
        x.add(99, 0, true);
        x.clear();
        x.fill(7, 100);
        due.same("in place of another", x.add(98, 8, true), 3);
        Bytes.Item a = new Bytes.Item("a", 0, false, HELLO, 0);
        Bytes.Item old = new Bytes.Item("b", 8, false, HELLO, 48);
        Bytes.Item c = new Bytes.Item("c", 0, true, HELLO, new Bytes().local(a).local(old).size());
        Bytes locals = new Bytes().local(a).local(old).local(c);
        Bytes.Item b = new Bytes.Item("b", 8, true, Due.buffer(x), locals.size());
        due.sameBytes("in place of another", Due.file(x), locals.local(b).directory("", a, c, b).all());
        due.same("check", x.check(), 0);
        due.same("load", x.load(98), 100);
    }

    private static void addKeepsWhatIsThere() {
        Bytes.Item a = new Bytes.Item("a", 0, true, HELLO, 5);
        a.extras = Bytes.record(77, Due.text("mm"));
        a.localExtras = Bytes.record(3, Due.text("nnn"));
        a.remark = "remark of a";
        byte[] old = new Bytes().text("begin").local(a).text("between").directory("the end", a).all();
        // Numbers without a meaning are any; those of the old parts stay.
        int start = 5 + 30 + 1 + 7 + HELLO.length + 16 + 7;
        old[start + 4] = 20;
        old[start + 12] = 77;
        old[start + 36] = 1;
        Zip x = Due.lying(old);
        due.same("check", x.check(), 0);
        x.give(0x4142, 2);
        due.same("add", x.add(98, 0, false), 2);
        Bytes.Item b = new Bytes.Item("b", 0, false, Due.text("AB"), start);
        byte[] want = new Bytes().raw(Arrays.copyOf(old, start)).local(b)
            .directory("the end", a, b).all();
        System.arraycopy(old, start, want, start + 33, 46);
        due.sameBytes("what was there stays", Due.file(x), want);
        due.same("check", x.check(), 0);
        due.same("load", x.load(97), HELLO.length);
    }

    private static void addNames() {
        for (int name : new int[] {0, -1, 32, 127, 33 << 8, 33 << 8 | 32, 32 << 8 | 33, 127 << 8 | 33, 0x216100,
            0x210061, 0x7f6161, 0x206161, 0x21212121, 0x61000000, 0x01616161, Integer.MIN_VALUE, Integer.MAX_VALUE}) {
            Zip x = new Zip();
            x.create();
            due.throwsIt("name " + name, IllegalArgumentException.class, () -> x.add(name, 0, false));
            due.same("a throw leaves the file", x.length(), 22);
        }
        for (int name : new int[] {33, 126, 33 << 8 | 33, 126 << 8 | 126, 0x212121, 0x7e7e7e, 0x61217e}) {
            Zip x = new Zip();
            x.create();
            due.answers("name " + name, 1, () -> x.add(name, 0, false));
            due.answers("name told", name, () -> x.about(0, 0));
        }
        for (int method : new int[] {-1, 1, 7, 9, 8 << 8, Integer.MIN_VALUE, Integer.MAX_VALUE}) {
            Zip x = new Zip();
            x.create();
            due.throwsIt("method " + method, IllegalArgumentException.class, () -> x.add(97, method, false));
        }
        Zip none = new Zip();
        due.throwsIt("no archive is told first", UnsupportedOperationException.class, () -> none.add(0, 1, false));
    }

    private static void addLimits() {
        Zip x = new Zip();
        x.create();
        for (int i = 0; i < 8; i++) {
            due.same("add " + i, x.add(97 + i, 0, false), i + 1);
        }
        byte[] before = Due.file(x);
        due.throwsIt("the ninth", IllegalStateException.class, () -> x.add(105, 0, false));
        due.throwsIt("the ninth without a name", IllegalArgumentException.class, () -> x.add(0, 0, false));
        due.sameBytes("a throw leaves the file", Due.file(x), before);
        due.answers("in place of one of eight", 8, () -> x.add(97, 0, true));
        due.same("check", x.check(), 0);

        for (int over = 0; over <= 1; over++) {
            // 31 bytes and 10 of content, 47 of the directory, 22 of the end.
            byte[] junk = new byte[1600 - 110 + over];
            Zip y = Due.lying(new Bytes().raw(junk).end(0, 0, junk.length, "").all());
            y.fill(1, 10);
            byte[] old = Due.file(y);
            if (over == 0) {
                due.answers("just 1600", 1, () -> y.add(97, 0, false));
                due.same("length", y.length(), 1600);
                due.same("check", y.check(), 0);
            } else {
                due.throwsIt("1601", IllegalStateException.class, () -> y.add(97, 0, false));
                due.sameBytes("a throw leaves the file", Due.file(y), old);
                due.throwsIt("1601, method wrong too", IllegalArgumentException.class, () -> y.add(97, 2, false));
            }
        }
        for (int over = 0; over <= 1; over++) {
            byte[] junk = new byte[1600 - 51 - 10 - 75 - 98 - 3 + over];
            Zip y = Due.lying(new Bytes().raw(junk).end(0, 0, junk.length, "xyz").all());
            y.fill(1, 10);
            y.wide(true);
            if (over == 0) {
                due.answers("just 1600, wide", 1, () -> y.add(97, 0, false));
                due.same("length", y.length(), 1600);
                due.same("check", y.check(), 0);
            } else {
                due.throwsIt("1601, wide", IllegalStateException.class, () -> y.add(97, 0, false));
            }
        }
        Zip z = new Zip();
        for (int i = 0; i < 200; i++) {
            z.give(144 + i * (i < 112 ? 61 : 45) % 112, 1);
        }
        z.create();
        due.throwsIt("packed bytes above 200", IllegalStateException.class, z::pack);
        byte[] content = Due.buffer(z);
        due.answers("an entry's may be above 200", 1, () -> z.add(97, 8, false));
        due.is("above 200", z.about(0, 4) > 200);
        due.same("check", z.check(), 0);
        z.clear();
        due.answers("load", 200, () -> z.load(97));
        due.sameBytes("load", Due.buffer(z), content);
    }

    private static void remove() {
        Zip x = Due.holding(HELLO);
        x.create();
        x.add(97, 0, false);
        x.add(98, 8, true);
        x.add(99, 0, false);
        byte[] full = Due.file(x);
        due.throwsIt("none of that name", NoSuchElementException.class, () -> x.remove(100));
        due.throwsIt("no name", NoSuchElementException.class, () -> x.remove(0));
        due.throwsIt("no name", NoSuchElementException.class, () -> x.remove(-1));
        due.throwsIt("no name", NoSuchElementException.class, () -> x.remove(ZipArray.NONE));
        due.sameBytes("a throw leaves the file", Due.file(x), full);
        due.same("remove the middle", x.remove(98), 2);
        Bytes.Item a = new Bytes.Item("a", 0, false, HELLO, 0);
        Bytes.Item b = new Bytes.Item("b", 8, true, HELLO, 48);
        Bytes.Item c = new Bytes.Item("c", 0, false, HELLO, 48 + new Bytes().local(b).size());
        Bytes locals = new Bytes().local(a).local(b).local(c);
        due.sameBytes("remove", Due.file(x), locals.directory("", a, c).all());
        due.sameBytes("remove leaves the buffer", Due.buffer(x), HELLO);
        due.same("check", x.check(), 0);
        due.throwsIt("remove again", NoSuchElementException.class, () -> x.remove(98));
        due.same("remove the first", x.remove(97), 1);
        due.same("remove the last", x.remove(99), 0);
        locals = new Bytes().local(a).local(b).local(c);
        due.sameBytes("none is left", Due.file(x), locals.directory("").all());
        due.same("count", x.count(), 0);
        due.same("check", x.check(), 0);

        a.remark = "of a";
        c.extras = Bytes.record(9, Due.text("z"));
        Zip y = Due.lying(Bytes.archive("good bye", a, b, c));
        due.same("remove", y.remove(98), 2);
        due.sameBytes("the others are as they were, the remark too", Due.file(y),
            new Bytes().local(a).local(b).local(c).directory("good bye", a, c).all());
    }

    private static void removeLimits() {
        for (int over = 0; over <= 1; over++) {
            // An end that gets wide needs 76 bytes more, a part of the directory gives 47.
            Bytes.Item a = new Bytes.Item("a", 0, false, new byte[0], 0);
            byte[] junk = new byte[1600 - 31 - 98 + over];
            Zip x = Due.lying(new Bytes().local(a).raw(junk).directory("", a).all());
            byte[] before = Due.file(x);
            x.wide(true);
            due.throwsIt("none of that name is told first", NoSuchElementException.class, () -> x.remove(98));
            if (over == 0) {
                due.answers("just 1600", 0, () -> x.remove(97));
                due.same("length", x.length(), 1600);
                due.same("check", x.check(), 0);
            } else {
                due.throwsIt("1601", IllegalStateException.class, () -> x.remove(97));
                due.sameBytes("a throw leaves the file", Due.file(x), before);
                x.wide(false);
                due.answers("not wide", 0, () -> x.remove(97));
            }
        }
    }

    private static void load() {
        Zip x = Due.holding(HELLO);
        x.create();
        x.add(97, 0, false);
        x.add(98, 8, true);
        x.clear();
        x.add(99, 0, false);
        due.same("load", x.load(97), HELLO.length);
        due.sameBytes("load", Due.buffer(x), HELLO);
        due.same("load of nothing", x.load(99), 0);
        due.same("held", x.held(), 0);
        x.fill(4, 200);
        due.same("load packed", x.load(98), HELLO.length);
        due.sameBytes("load packed", Due.buffer(x), HELLO);
        due.throwsIt("none of that name", NoSuchElementException.class, () -> x.load(100));
        due.throwsIt("no name", NoSuchElementException.class, () -> x.load(0));
        due.throwsIt("no name", NoSuchElementException.class, () -> x.load(-1));
        x.poke(31, 'H');
        x.clear();
        x.fill(6, 6);
        due.throwsIt("a wrong entry", ArithmeticException.class, () -> x.load(97));
        due.same("a throw leaves the buffer", x.held(), 6);
        due.same("a throw leaves the buffer", x.at(5), 6);
        due.answers("another is right", HELLO.length, () -> x.load(98));
        due.same("check", x.check(), 8);
    }

    private static void count() {
        Zip x = new Zip();
        x.create();
        due.same("count", x.count(), 0);
        for (int i = 0; i < 8; i++) {
            x.add(97 + i, 0, false);
            due.same("count", x.count(), i + 1);
        }
        x.poke(0, 0);
        due.answers("count of wrong entries", 8, x::count);
    }

    private static void about() {
        Bytes.Item a = new Bytes.Item("abc", 8, true, HELLO, 3);
        Bytes.Item b = new Bytes.Item("d", 0, false, Due.text("1"), 3 + new Bytes().local(a).size());
        Zip x = Due.lying(new Bytes().text("...").local(a).local(b).directory("r", a, b).all());
        long[][] want = {{0x616263, 8, 8, (int) a.crc, a.packedSize, HELLO.length, 3},
            {100, 0, 0, (int) b.crc, 1, 1, b.offset}};
        due.is("a CRC is below 0", (int) b.crc < 0 || (int) a.crc < 0);
        for (int k = 0; k < 2; k++) {
            for (int what = 0; what < 7; what++) {
                int one = k;
                int it = what;
                due.answers("about " + k + ", " + what, want[k][what], () -> x.about(one, it));
            }
        }
        for (int k : new int[] {-1, 2, 8, Integer.MIN_VALUE, Integer.MAX_VALUE}) {
            due.throwsIt("about " + k, IndexOutOfBoundsException.class, () -> x.about(k, 0));
            due.throwsIt("both wrong", IndexOutOfBoundsException.class, () -> x.about(k, 7));
        }
        for (int what : new int[] {-1, 7, Integer.MIN_VALUE, Integer.MAX_VALUE}) {
            due.throwsIt("about what " + what, IllegalArgumentException.class, () -> x.about(1, what));
        }
        x.poke(3, 0);
        due.answers("by the directory", 3, () -> x.about(0, 6));
    }

    private static void noArchive() {
        byte[] two = new Bytes().end(1, 0, 0, "").all();
        for (byte[] file : new byte[][] {{}, new byte[22], two}) {
            Zip x = Due.lying(file);
            x.fill(5, 5);
            String what = "no archive of " + file.length + ": ";
            due.same(what, x.check(), file == two ? 2 : 1);
            due.throwsIt(what + "add", UnsupportedOperationException.class, () -> x.add(97, 0, false));
            due.throwsIt(what + "add of none", UnsupportedOperationException.class, () -> x.add(0, 3, false));
            due.throwsIt(what + "remove", UnsupportedOperationException.class, () -> x.remove(97));
            due.throwsIt(what + "load", UnsupportedOperationException.class, () -> x.load(97));
            due.throwsIt(what + "count", UnsupportedOperationException.class, x::count);
            due.throwsIt(what + "about", UnsupportedOperationException.class, () -> x.about(0, 0));
            due.throwsIt(what + "about nothing", UnsupportedOperationException.class, () -> x.about(9, 9));
            due.sameBytes(what + "a throw leaves the file", Due.file(x), file);
            due.same(what + "a throw leaves the buffer", x.held(), 5);
        }
    }

    private static void theLibraryReadsIt() throws IOException {
        Zip x = Due.holding(HELLO);
        x.create();
        x.add(97, 8, false);
        x.add(98, 8, true);
        x.add(99, 0, false);
        ZipInputStream in = new ZipInputStream(new ByteArrayInputStream(Due.file(x)));
        for (String name : new String[] {"a", "b", "c"}) {
            ZipEntry e = in.getNextEntry();
            due.is("the library finds " + name, e != null && e.getName().equals(name));
            due.sameBytes("the library reads " + name, in.readAllBytes(), HELLO);
        }
        due.is("the library finds no more", in.getNextEntry() == null);
    }

    private static void asTheReadmeSays() {
        Zip x = new Zip();
        x.create();
        x.fill(97, 50);
        x.add(0x6161, 8, false);
        x.clear();
        due.answers("README: load", 50, () -> x.load(0x6161));
        due.answers("README: check", 0, x::check);
        due.answers("README: packed size", 5, () -> x.about(0, 4));
        x.clear();
        x.give(0x616263, 3);
        due.sameBytes("README: give", Due.buffer(x), Due.text("abc"));
    }
}
