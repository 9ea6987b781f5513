import java.util.ArrayList;
import java.util.List;
import java.util.function.Consumer;
import java.util.function.Supplier;

/** Calls that are refused: what they throw, and that all is as if they had not been made. */
final class Refusal {
    private static final int BYTES_AT_ONCE = 250;

    private interface Probe {
        void ask(Zip x, List<String> told);
    }

    private final Due due;
    private final Supplier<Zip> made;
    private final List<Probe> probes = new ArrayList<>();

    /** For calls on objects that are made like this one, again for each question that follows. */
    Refusal(Due due, Supplier<Zip> made) {
        this.due = due;
        this.made = made;
        probes.add(Refusal::askBuffer);
        int length = made.get().length();
        for (int from = 0; from <= length; from += BYTES_AT_ONCE) {
            int first = from;
            probes.add((x, told) -> askFile(x, told, first));
        }
        probes.add(Refusal::askArchive);
        probes.add(Refusal::askLoads);
        probes.add(Refusal::askPacking);
        probes.add((x, told) -> tell(told, x::unpack));
        probes.add(Refusal::askRoom);
        probes.add((x, told) -> askAdds(x, told, 0, false));
        probes.add((x, told) -> askAdds(x, told, 8, true));
        probes.add(Refusal::askRemoves);
        probes.add(Refusal::askWidth);
        probes.add(Refusal::askEnds);
    }

    /** The call throws this, and what is asked next is answered as on an object that has not made it. */
    Refusal of(String what, Class<? extends RuntimeException> first, Consumer<Zip> call) {
        for (int i = 0; i < probes.size(); i++) {
            Zip one = made.get();
            due.throwsDeed(what, first, () -> call.accept(one));
            List<String> got = new ArrayList<>();
            List<String> want = new ArrayList<>();
            probes.get(i).ask(one, got);
            probes.get(i).ask(made.get(), want);
            due.is(what + ": then " + got + ", as if it had not been made " + want, got.equals(want));
        }
        return this;
    }

    private static void tell(List<String> told, Due.Call call) {
        try {
            told.add("" + call.run());
        } catch (RuntimeException e) {
            told.add(e.getClass().getSimpleName());
        }
    }

    private static void askBuffer(Zip x, List<String> told) {
        int n = x.held();
        tell(told, x::held);
        tell(told, x::crc);
        for (int i = -1; i <= n; i++) {
            int one = i;
            tell(told, () -> x.at(one));
        }
        tell(told, x::clear);
    }

    private static void askFile(Zip x, List<String> told, int from) {
        tell(told, x::length);
        for (int i = from; i < from + BYTES_AT_ONCE; i++) {
            int one = i;
            tell(told, () -> x.byteAt(one));
        }
    }

    private static void askArchive(Zip x, List<String> told) {
        tell(told, x::check);
        tell(told, x::count);
        for (int k = 0; k <= 8; k++) {
            for (int what = 0; what <= 6; what++) {
                int entry = k;
                int it = what;
                tell(told, () -> x.about(entry, it));
            }
        }
    }

    private static List<Integer> names(Zip x) {
        List<Integer> all = new ArrayList<>();
        for (int k = 0; k < 8; k++) {
            try {
                all.add(x.about(k, 0));
            } catch (RuntimeException e) {
                return all;
            }
        }
        return all;
    }

    private static void askLoads(Zip x, List<String> told) {
        for (int name : names(x)) {
            tell(told, () -> x.load(name));
            tell(told, x::held);
            tell(told, x::crc);
        }
    }

    private static void askPacking(Zip x, List<String> told) {
        tell(told, x::pack);
        tell(told, x::crc);
        tell(told, x::unpack);
        tell(told, x::crc);
    }

    private static void askRoom(Zip x, List<String> told) {
        for (int i = 0; i < 2; i++) {
            tell(told, () -> x.give(1, 1));
            tell(told, () -> x.put(1, 1));
            tell(told, () -> x.fill(2, 100));
        }
    }

    private static void askAdds(Zip x, List<String> told, int method, boolean later) {
        tell(told, () -> x.add(0x7a7a7a, method, later));
        tell(told, x::length);
        askArchive(x, told);
        tell(told, () -> x.load(0x7a7a7a));
    }

    private static void askRemoves(Zip x, List<String> told) {
        for (int name : names(x)) {
            tell(told, () -> x.remove(name));
            tell(told, x::length);
            tell(told, x::check);
        }
    }

    private static void askWidth(Zip x, List<String> told) {
        x.create();
        tell(told, x::length);
        tell(told, x::check);
        tell(told, () -> x.add(97, 0, false));
        tell(told, x::length);
    }

    private static void askEnds(Zip x, List<String> told) {
        int n = x.length();
        if (n > 0) {
            tell(told, () -> {
                x.poke(n - 1, 1);
                return x.check();
            });
            tell(told, () -> {
                x.cut(n - 1);
                return x.length();
            });
        }
    }
}
