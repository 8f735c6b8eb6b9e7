import java.util.ArrayList;
import java.util.Arrays;
import java.util.List;
import java.util.function.Consumer;
import java.util.function.ToLongFunction;

/** The sentence 'A call that reports an error changes nothing', for each call and error, in many states. */
public final class RefusalsTest {
    private static final int LEAST = Integer.MIN_VALUE;
    private static final int MOST = Integer.MAX_VALUE;
    private static final int[][] FAMILIES = {{7, 3, 2}, {5, 1}, {3, 2}, {21}, {9, 4}, {1, 2, 1, 2}};

    /** A call that reports an error, with what it answers. */
    private record Refused(String name, ToLongFunction<EnumerativeCoder> call, long due) {
    }

    public static void main(String[] args) {
        Tally.about("errors: a call that reports an error changes nothing");
        refuse(wrongSelections(), everyState());
        refuse(wrongArguments(), everyState());
        refuse(withoutAnObject(), statesWithoutAnObject());
        refuse(wrongFamilies(), everyState());
        refuse(stepsBeforeTheFirst(), statesWithAnObject());
        refuse(stepsBehindTheLast(), statesNearTheEnd());
        conjugatesAboveTheGreatestPart();
        treesAndWordsThatAreNone();
        fullArchives();
        Tally.about("calls that only read change nothing");
        readings();
        Tally.end();
    }

    private static void refuse(List<Refused> calls, List<Consumer<EnumerativeCoder>> states) {
        for (Refused refused : calls) {
            for (Consumer<EnumerativeCoder> state : states) {
                State.staysAfter(refused.name(), state, refused.call(), refused.due());
            }
        }
    }

    // ---- states

    private static void mark(EnumerativeCoder x) {
        for (int i = 0; i < 60; i++) {
            x.put(i, 800 + i);
        }
    }

    /** A coder with two entries, marked places behind the object, and an object of a family. */
    private static Consumer<EnumerativeCoder> stateOf(int family) {
        return x -> {
            mark(x);
            x.selectTrees(4);
            x.unrank(7);
            x.store();
            x.selectSubsets(6, 2, 1);
            x.unrank(11);
            x.store();
            ListsTest.select(x, family, FAMILIES[family]);
            x.unrank(5);
        };
    }

    private static List<Consumer<EnumerativeCoder>> statesWithAnObject() {
        List<Consumer<EnumerativeCoder>> states = new ArrayList<>();
        for (int family = 0; family < 6; family++) {
            states.add(stateOf(family));
        }
        return states;
    }

    private static List<Consumer<EnumerativeCoder>> statesWithoutAnObject() {
        List<Consumer<EnumerativeCoder>> states = new ArrayList<>();
        for (int family = 0; family < 6; family++) {
            Consumer<EnumerativeCoder> spoilt = x -> x.put(x.length() - 1, -3);
            states.add(stateOf(family).andThen(spoilt));
        }
        return states;
    }

    private static List<Consumer<EnumerativeCoder>> everyState() {
        List<Consumer<EnumerativeCoder>> states = new ArrayList<>();
        states.add(x -> { });
        states.add(RefusalsTest::mark);
        states.addAll(statesWithAnObject());
        states.addAll(statesWithoutAnObject());
        return states;
    }

    // ---- refused calls

    private static List<Refused> wrongSelections() {
        List<Refused> calls = new ArrayList<>();
        int[][] wrong = {{0, -1, 0, 0}, {0, 61, 0, 0}, {0, 5, -1, 0}, {0, 5, 6, 0}, {0, 5, 2, -1}, {0, 5, 2, 3}, {0, 61, 61, 3},
            {1, 0, 0}, {1, 21, 0}, {1, 4, -1}, {1, 4, 2}, {1, MOST, 0}, {2, 0, 1}, {2, 21, 1}, {2, 3, 0}, {2, 3, 3},
            {2, LEAST, 1}, {3, 0}, {3, 31}, {3, -1}, {3, MOST}, {4, 0, 0}, {4, 0, 1}, {4, 61, 1}, {4, 5, 0}, {4, 5, 6},
            {4, LEAST, LEAST}, {5, 0, 0, 0, 0}, {5, -1, 1, 1, 1}, {5, 1, -1, 1, 1}, {5, 1, 1, -1, 1}, {5, 1, 1, 1, -1},
            {5, 21, 0, 0, 0}, {5, 0, 0, 0, 21}, {5, 20, 1, 0, 0}, {5, 6, 5, 5, 5}, {5, MOST, MOST, 1, 2}};
        for (int[] w : wrong) {
            int[] p = Arrays.copyOfRange(w, 1, w.length);
            calls.add(new Refused("select " + Arrays.toString(w), x -> ListsTest.select(x, w[0], p), -1));
        }
        return calls;
    }

    private static List<Refused> wrongArguments() {
        List<Refused> calls = new ArrayList<>();
        for (int i : new int[] {LEAST, -1, 4, MOST}) {
            calls.add(new Refused("parameter(" + i + ")", x -> x.parameter(i), -1));
        }
        for (int i : new int[] {LEAST, -1, 60, MOST}) {
            calls.add(new Refused("put(" + i + ", 2)", x -> x.put(i, 2), -1001));
            calls.add(new Refused("get(" + i + ")", x -> x.get(i), -1001));
        }
        for (int value : new int[] {LEAST, -1001, 1001, MOST}) {
            calls.add(new Refused("put(0, " + value + ")", x -> x.put(0, value), -1001));
            calls.add(new Refused("put(60, " + value + ")", x -> x.put(60, value), -1001));
        }
        for (long rank : new long[] {-1, Long.MIN_VALUE, Long.MAX_VALUE, 1L << 62}) {
            calls.add(new Refused("unrank(" + rank + ")", x -> x.unrank(rank), -1));
            calls.add(new Refused("decode(" + rank + ")", x -> x.decode(rank), -1));
        }
        calls.add(new Refused("unrank of the count", x -> x.unrank(x.count()), -1));
        calls.add(new Refused("decode of the total", x -> x.decode(x.total()), -1));
        for (int by : new int[] {LEAST, -1000001, 1000001, MOST}) {
            calls.add(new Refused("step(" + by + ")", x -> x.step(by), -1));
        }
        for (int entry : new int[] {LEAST, -1, 2, 10, MOST}) {
            calls.add(new Refused("fetch(" + entry + ")", x -> x.fetch(entry), -5));
        }
        return calls;
    }

    private static List<Refused> withoutAnObject() {
        List<Refused> calls = new ArrayList<>();
        calls.add(new Refused("rank()", EnumerativeCoder::rank, -2));
        calls.add(new Refused("step(0)", x -> x.step(0), -2));
        calls.add(new Refused("step(1)", x -> x.step(1), -2));
        calls.add(new Refused("step(-1000000)", x -> x.step(-1000000), -2));
        calls.add(new Refused("transform()", EnumerativeCoder::transform, -2));
        calls.add(new Refused("descents()", EnumerativeCoder::descents, -2));
        calls.add(new Refused("store()", EnumerativeCoder::store, -2));
        return calls;
    }

    /** None of the states has trees with at most 20 nodes or words with one type. */
    private static List<Refused> wrongFamilies() {
        List<Refused> calls = new ArrayList<>();
        calls.add(new Refused("toWord()", EnumerativeCoder::toWord, -3));
        calls.add(new Refused("toTree()", EnumerativeCoder::toTree, -3));
        return calls;
    }

    /** In the states with an object its rank is 5. */
    private static List<Refused> stepsBeforeTheFirst() {
        List<Refused> calls = new ArrayList<>();
        calls.add(new Refused("step(-6)", x -> x.step(-6), -6));
        calls.add(new Refused("step(-1000000)", x -> x.step(-1000000), -6));
        return calls;
    }

    private static List<Refused> stepsBehindTheLast() {
        List<Refused> calls = new ArrayList<>();
        calls.add(new Refused("step(3)", x -> x.step(3), -6));
        calls.add(new Refused("step(1000000)", x -> x.step(1000000), -6));
        return calls;
    }

    private static List<Consumer<EnumerativeCoder>> statesNearTheEnd() {
        List<Consumer<EnumerativeCoder>> states = new ArrayList<>();
        for (Consumer<EnumerativeCoder> state : statesWithAnObject()) {
            states.add(state.andThen(x -> x.unrank(x.count() - 3)));
        }
        return states;
    }

    // ---- refusals of one kind of state

    /** The first partitions have the most parts. */
    private static void conjugatesAboveTheGreatestPart() {
        for (int rank = 0; rank < 7; rank++) {
            int place = rank;
            Consumer<EnumerativeCoder> select = x -> x.selectPartitions(60, 10);
            Consumer<EnumerativeCoder> state = stateOf(4).andThen(select).andThen(x -> x.unrank(place));
            State.staysAfter("transform() of partition " + rank, state, EnumerativeCoder::transform, -6);
        }
    }

    private static void treesAndWordsThatAreNone() {
        for (int nodes = 1; nodes <= 20; nodes++) {
            int size = nodes;
            Consumer<EnumerativeCoder> noTree = x -> {
                x.selectTrees(size);
                x.put(size - 1, 1);
            };
            State.staysAfter("toWord() without an object", stateOf(3).andThen(noTree), EnumerativeCoder::toWord, -2);
            Consumer<EnumerativeCoder> noWord = x -> {
                x.selectWords(size, 1);
                x.put(2 * size - 1, 0);
            };
            State.staysAfter("toTree() without an object", stateOf(2).andThen(noWord), EnumerativeCoder::toTree, -2);
        }
    }

    private static void fullArchives() {
        for (int family = 0; family < 6; family++) {
            int present = family;
            Consumer<EnumerativeCoder> select = x -> ListsTest.select(x, present, FAMILIES[present]);
            Consumer<EnumerativeCoder> ten = stateOf(family).andThen(RefusalsTest::storeOneObjectTenTimes).andThen(select);
            State.staysAfter("store() into ten entries", ten, EnumerativeCoder::store, -4);
            Consumer<EnumerativeCoder> great = x -> {
                x.selectPermutations(20, 0);
                x.unrank(77);
                x.store();
            };
            State.staysAfter("store() above the greatest total", great.andThen(select), EnumerativeCoder::store, -4);
        }
    }

    private static void storeOneObjectTenTimes(EnumerativeCoder x) {
        x.selectSubsets(8, 8, 1);
        for (int i = 0; i < 10; i++) {
            x.store();
        }
    }

    /** With what they answer compared to a twin's answer, so that only the state is under test. */
    private static void readings() {
        List<ToLongFunction<EnumerativeCoder>> calls = List.of(EnumerativeCoder::family, x -> x.parameter(1),
            EnumerativeCoder::length, EnumerativeCoder::count, x -> x.get(2), EnumerativeCoder::isObject, EnumerativeCoder::rank,
            EnumerativeCoder::descents, EnumerativeCoder::entries, EnumerativeCoder::total, EnumerativeCoder::code);
        for (int i = 0; i < calls.size(); i++) {
            for (Consumer<EnumerativeCoder> state : everyState()) {
                State.staysAfter("reading " + i, state, calls.get(i), calls.get(i).applyAsLong(State.made(state)));
            }
        }
    }
}
