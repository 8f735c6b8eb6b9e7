import java.util.ArrayList;
import java.util.List;
import java.util.function.Consumer;
import java.util.function.ToLongFunction;

/** All that can be seen of a coder. */
final class State {
    private State() {
    }

    /** Reads everything, the entries last, because fetching them changes the present family and the buffer. */
    static List<String> of(EnumerativeCoder coder) {
        List<String> seen = new ArrayList<>();
        addFamily(coder, seen);
        for (int i = 0; i < 60; i++) {
            seen.add("get(" + i + ") " + coder.get(i));
        }
        seen.add("isObject() " + coder.isObject());
        seen.add("rank() " + coder.rank());
        seen.add("descents() " + coder.descents());
        seen.add("entries() " + coder.entries());
        seen.add("total() " + coder.total());
        seen.add("code() " + coder.code());
        int entries = coder.entries();
        for (int entry = 0; entry < entries; entry++) {
            seen.add("fetch(" + entry + ") " + coder.fetch(entry));
            addFamily(coder, seen);
            seen.add("rank() " + coder.rank());
        }
        return seen;
    }

    private static void addFamily(EnumerativeCoder coder, List<String> seen) {
        seen.add("family() " + coder.family());
        for (int i = 0; i < 4; i++) {
            seen.add("parameter(" + i + ") " + coder.parameter(i));
        }
        seen.add("length() " + coder.length());
        seen.add("count() " + coder.count());
    }

    static EnumerativeCoder made(Consumer<EnumerativeCoder> setting) {
        EnumerativeCoder coder = new EnumerativeCoder();
        setting.accept(coder);
        return coder;
    }

    /** Compares with a twin, made in the same way, that does not get the call. */
    static void staysAfter(String call, Consumer<EnumerativeCoder> setting, ToLongFunction<EnumerativeCoder> asked, long due) {
        EnumerativeCoder coder = made(setting);
        Tally.same(call, asked.applyAsLong(coder), due);
        List<String> got = of(coder);
        List<String> want = of(made(setting));
        for (int i = 0; i < Math.max(got.size(), want.size()); i++) {
            String one = i < got.size() ? got.get(i) : "nothing";
            String other = i < want.size() ? want.get(i) : "nothing";
            Tally.holds("after " + call + " that " + other + " and not " + one, one.equals(other));
        }
    }
}
