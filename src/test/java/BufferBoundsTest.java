import java.math.BigInteger;
import java.util.Arrays;
import java.util.List;

/** The edges of the buffer and of the ranks: the sentences of 'The buffer' and of promises 12 to 18. */
public final class BufferBoundsTest {
    private static final int LEAST = Integer.MIN_VALUE;
    private static final int MOST = Integer.MAX_VALUE;
    private static final long FACTORIAL_20 = 2432902008176640000L;
    private static final BigInteger TWO_64 = BigInteger.ONE.shiftLeft(64);
    private static final BigInteger FACTOR = new BigInteger("6364136223846793005");
    private static final BigInteger SUMMAND = new BigInteger("1442695040888963407");
    /** One family of each kind, with an object from the middle of its list. */
    private static final int[][] FAMILIES = {{7, 3, 2}, {5, 1}, {3, 2}, {6}, {9, 4}, {1, 2, 1, 2}};
    private static final long[] MIDDLE = {17, 63, 21, 70, 10, 91};

    private static EnumerativeCoder x;

    public static void main(String[] args) {
        placesOfPut();
        valuesOfPut();
        placesOfGet();
        everyPlaceKeepsItsOwn();
        putAnswersThePreviousInteger();
        placesBehindAreNotUsed();
        placesBehindKeepTheirValues();
        theWholeBufferIsUsed();
        noObjectAndAgainOne();
        callsThatNeedNoObject();
        smallRows();
        subsetRows();
        permutationRows();
        wordRows();
        deepWords();
        treeRows();
        partitionRows();
        arrangementRows();
        rankWithoutAnObject();
        unrankOutOfRange();
        unrankTellsWhetherTheBufferChanges();
        stepsOutOfRange();
        stepsToBothEnds();
        stepsOverBothEnds();
        stepsThatAreTheGreatest();
        stepsOfOneObject();
        stepsWithSeveralErrors();
        drawOfOneObject();
        drawWithAnySeed();
        drawOverNoObject();
        theLastPromisedCall();
        Tally.end();
    }

    private static void fill(int... row) {
        Tally.fill(x, row);
    }

    private static EnumerativeCoder middleOf(int family) {
        EnumerativeCoder coder = new EnumerativeCoder();
        ListsTest.select(coder, family, FAMILIES[family]);
        coder.unrank(MIDDLE[family]);
        return coder;
    }

    // ---- places and values

    private static void placesOfPut() {
        x = Tally.about("promise 12, i: the place, 0 to 59");
        for (int i : new int[] {LEAST, LEAST + 59, -60, -1, 60, 61, 64, MOST}) {
            Tally.same("put(" + i + ", 1)", x.put(i, 1), -1001);
        }
        Tally.elements("refused calls", x, new int[60]);
        Tally.same("put(0, 1)", x.put(0, 1), 0);
        Tally.same("put(59, 1)", x.put(59, 1), 0);
    }

    private static void valuesOfPut() {
        x = Tally.about("promise 12, value: the integer, -1000 to 1000");
        for (int value : new int[] {LEAST, -1002, -1001, 1001, 1002, MOST}) {
            Tally.same("put(3, " + value + ")", x.put(3, value), -1001);
            Tally.same("get(3)", x.get(3), 0);
        }
        Tally.same("put(60, 1001)", x.put(60, 1001), -1001);
        Tally.same("put(3, -1000)", x.put(3, -1000), 0);
        Tally.same("get(3)", x.get(3), -1000);
        Tally.same("put(3, 1000)", x.put(3, 1000), -1000);
        Tally.same("put(3, 1001)", x.put(3, 1001), -1001);
        Tally.same("get(3)", x.get(3), 1000);
    }

    private static void placesOfGet() {
        x = Tally.about("promise 13, i: 0 to 59; for other numbers the result is -1001");
        for (int i = 0; i < 60; i++) {
            x.put(i, 100 + i);
        }
        for (int i : new int[] {LEAST, -1001, -60, -1, 60, 61, 1000, MOST}) {
            Tally.same("get(" + i + ")", x.get(i), -1001);
        }
        Tally.same("get(0)", x.get(0), 100);
        Tally.same("get(59)", x.get(59), 159);
    }

    private static void everyPlaceKeepsItsOwn() {
        x = Tally.about("the buffer has 60 places");
        for (int i = 0; i < 60; i++) {
            Tally.same("put(" + i + ")", x.put(i, 17 * i - 500), 0);
        }
        for (int i = 0; i < 60; i++) {
            Tally.same("get(" + i + ")", x.get(i), 17 * i - 500);
        }
    }

    private static void putAnswersThePreviousInteger() {
        x = Tally.about("promise 12, returns the previous integer");
        x.selectPermutations(4, 0);
        x.unrank(23);
        Tally.same("put(0, 3)", x.put(0, 3), 3);
        Tally.same("isObject()", x.isObject(), 1);
        Tally.same("put(0, -1000)", x.put(0, -1000), 3);
        Tally.same("put(0, -1000) again", x.put(0, -1000), -1000);
        Tally.same("put(0, 3)", x.put(0, 3), -1000);
        Tally.same("rank()", x.rank(), 23);
    }

    // ---- the places behind the object

    private static void placesBehindAreNotUsed() {
        Tally.about("the buffer: only the first places belong to the object, the others are not used");
        for (int family = 0; family < 6; family++) {
            EnumerativeCoder plain = middleOf(family);
            x = middleOf(family);
            int width = x.length();
            for (int i = width; i < 60; i++) {
                x.put(i, i % 2 == 0 ? 1000 : -1000);
            }
            String name = "family " + family + " ";
            Tally.same(name + "isObject()", x.isObject(), 1);
            Tally.same(name + "rank()", x.rank(), MIDDLE[family]);
            Tally.same(name + "descents()", x.descents(), plain.descents());
            Tally.same(name + "unrank", x.unrank(MIDDLE[family]), 0);
            Tally.same(name + "store()", x.store(), 0);
            Tally.same(name + "transform()", x.transform(), plain.transform());
            Tally.same(name + "rank() after transform()", x.rank(), plain.rank());
            x.put(x.length() - 1, 1000);
            Tally.same(name + "isObject() with another last element", x.isObject(), 0);
        }
    }

    private static void staysBehind(String call, int length) {
        for (int i = length; i < 60; i++) {
            Tally.same("after " + call + " get(" + i + ")", x.get(i), 900 + i);
        }
    }

    private static void placesBehindKeepTheirValues() {
        for (int family = 0; family < 6; family++) {
            x = Tally.about("the buffer: the others are not used, but keep their values; family " + family);
            for (int i = 0; i < 60; i++) {
                x.put(i, 900 + i);
            }
            ListsTest.select(x, family, FAMILIES[family]);
            int length = x.length();
            x.unrank(MIDDLE[family]);
            x.step(2);
            x.draw(99);
            x.store();
            x.fetch(0);
            x.decode(0);
            x.sort();
            staysBehind("calls that store objects", length);
            x.transform();
            staysBehind("transform()", Math.max(length, x.length()));
            x.toWord();
            staysBehind("toWord()", Math.max(length, x.length()));
            x.toTree();
            staysBehind("toTree()", Math.max(length, 2 * x.length()));
        }
        x = Tally.about("the buffer: the others keep their values when the object becomes shorter");
        x.selectSubsets(5, 4, 0);
        x.transform();
        Tally.elements("transform() to one element", x, 4, 1, 2, 3, 0);
        x.selectWords(2, 1);
        x.toTree();
        Tally.elements("toTree()", x, 1, 0, 1, 1, 0);
        x.selectTrees(1);
        Tally.elements("selectTrees(1)", x, 0, 0, 1, 1, 0);
    }

    private static void theWholeBufferIsUsed() {
        x = Tally.about("the buffer: an object of 60 elements leaves no other places");
        x.selectSubsets(60, 60, 1);
        x.put(59, 58);
        Tally.same("isObject()", x.isObject(), 0);
        x.put(59, 59);
        Tally.same("isObject()", x.isObject(), 1);
        x.selectPartitions(60, 60);
        x.put(59, 0);
        Tally.same("isObject() of 59 ones", x.isObject(), 0);
        x.put(0, 2);
        Tally.same("isObject() of a two and 58 ones", x.isObject(), 1);
        Tally.same("rank()", x.rank(), 1);
    }

    // ---- objects and no objects

    private static void noObjectAndAgainOne() {
        x = Tally.about("the buffer: what is in these places may or may not be an object");
        x.selectTrees(3);
        x.put(0, 3);
        Tally.same("isObject() after put(0, 3)", x.isObject(), 0);
        x.put(0, 2);
        Tally.same("isObject() after put(0, 2)", x.isObject(), 1);
        x.put(1, 2);
        Tally.same("isObject() after put(1, 2)", x.isObject(), 0);
        x.selectTrees(3);
        Tally.same("isObject() after selectTrees(3)", x.isObject(), 1);
    }

    private static void callsThatNeedNoObject() {
        for (int family = 0; family < 6; family++) {
            x = Tally.about("promises 16, 18 and 24, calls that need no object in the buffer; family " + family);
            ListsTest.select(x, family, FAMILIES[family]);
            x.store();
            x.put(0, 1000);
            Tally.same("unrank(0)", x.unrank(0), 1);
            Tally.same("isObject()", x.isObject(), 1);
            x.put(0, 1000);
            Tally.holds("draw(3) answers a rank", x.draw(3) >= 0);
            Tally.same("isObject()", x.isObject(), 1);
            x.put(0, 1000);
            Tally.same("fetch(0)", x.fetch(0), family);
            Tally.same("rank()", x.rank(), 0);
        }
    }

    private static void judge(int due, int... row) {
        fill(row);
        Tally.same("isObject() for " + Arrays.toString(row), x.isObject(), due);
    }

    /** Every row of small numbers, with numbers below 0 and beyond the greatest one, for families of length 1 to 3. */
    private static void smallRows() {
        int[][] families = {{0, 4, 1, 0}, {0, 4, 2, 1}, {0, 5, 3, 2}, {0, 3, 3, 2}, {1, 1, 0}, {1, 2, 1}, {1, 3, 0},
            {2, 1, 1}, {2, 1, 2}, {3, 1}, {3, 2}, {3, 3}, {4, 1, 1}, {4, 2, 1}, {4, 2, 2}, {4, 3, 1}, {4, 3, 2}, {4, 3, 3},
            {5, 0, 1, 0, 0}, {5, 0, 0, 0, 2}, {5, 1, 0, 1, 1}, {5, 2, 1, 0, 0}};
        for (int[] named : families) {
            int[] p = Arrays.copyOfRange(named, 1, named.length);
            x = Tally.about("promise 14, 1 if the buffer contains an object; family " + Arrays.toString(named));
            List<int[]> list = Lists.of(named[0], p);
            int width = list.get(0).length;
            for (int number = 0; number < Math.pow(11, width); number++) {
                int[] row = new int[width];
                for (int i = 0, rest = number; i < width; i++, rest /= 11) {
                    row[i] = rest % 11 - 4;
                }
                if (number % 100 == 0) {
                    x = new EnumerativeCoder();
                    ListsTest.select(x, named[0], p);
                }
                judge(list.stream().anyMatch(object -> Arrays.equals(object, row)) ? 1 : 0, row);
            }
        }
    }

    private static void subsetRows() {
        x = Tally.about("families, subsets: ascending sequences of k different numbers from 0 to n - 1");
        for (int order = 0; order <= 2; order++) {
            x.selectSubsets(60, 3, order);
            judge(1, 0, 1, 59);
            judge(1, 57, 58, 59);
            judge(0, 0, 1, 60);
            judge(0, -1, 1, 59);
            judge(0, 0, 0, 59);
            judge(0, 0, 59, 59);
            judge(0, 1, 0, 59);
            judge(0, 0, 59, 58);
            judge(0, 0, 1, 1000);
            judge(0, -1000, 1, 2);
        }
    }

    private static void permutationRows() {
        x = Tally.about("families, permutations: each of the numbers 0 to n - 1 once");
        x.selectPermutations(20, 0);
        x.unrank(FACTORIAL_20 - 1);
        x.put(19, 19);
        Tally.same("isObject() with 19 twice and no 0", x.isObject(), 0);
        x.put(0, 0);
        Tally.same("isObject() with 0 and 19 exchanged", x.isObject(), 1);
        for (int wrong : new int[] {-1, 20, 32, 51, 52, 64, 1000, -1000, -13}) {
            x.put(19, wrong);
            Tally.same("isObject() with " + wrong, x.isObject(), 0);
        }
    }

    private static void wordRows() {
        x = Tally.about("families, words: 2 and 3 occur only with two types");
        x.selectWords(1, 1);
        judge(1, 0, 1);
        judge(0, 2, 3);
        x.selectWords(1, 2);
        judge(1, 2, 3);
        x = Tally.about("families, words: the closing brackets that belong to them");
        x.selectWords(1, 2);
        judge(0, 0, 3);
        judge(0, 2, 1);
        x = Tally.about("families, words: each closing bracket closes the latest opening bracket that is still open");
        x.selectWords(3, 2);
        judge(1, 0, 2, 3, 2, 3, 1);
        judge(0, 0, 2, 1, 2, 3, 3);
        judge(0, 2, 0, 3, 1, 0, 1);
        judge(0, 0, 1, 1, 0, 0, 1);
        judge(0, 1, 0, 0, 1, 0, 1);
        judge(0, 3, 2, 0, 1, 0, 1);
        x = Tally.about("families, words: at the end all are closed");
        x.selectWords(2, 1);
        judge(0, 0, 0, 0, 0);
        judge(0, 0, 0, 0, 1);
        judge(0, 0, 1, 0, 0);
        judge(0, 1, 1, 1, 1);
        judge(1, 0, 1, 0, 1);
    }

    /** With 20 pairs of two types, so that nothing is lost of the brackets that are open at once. */
    private static void deepWords() {
        x = Tally.about("families, words: 20 brackets open at once");
        x.selectWords(20, 2);
        for (int mask : new int[] {0, 0xFFFFF, 0x55555, 0xAAAAA, 0x80000, 0x00001, 0x7FFFF, 0x12345}) {
            for (int i = 0; i < 20; i++) {
                int type = mask >> i & 1;
                x.put(i, 2 * type);
                x.put(39 - i, 2 * type + 1);
            }
            Tally.same("isObject() of types " + mask, x.isObject(), 1);
            Tally.same("transform() of types " + mask, x.transform(), 0);
        }
        for (int i = 20; i < 40; i++) {
            int before = x.get(i);
            x.put(i, before ^ 2);
            Tally.same("isObject() with another type at " + i, x.isObject(), 0);
            x.put(i, before);
        }
        x = Tally.about("families, words: more brackets open than can be closed");
        x.selectWords(20, 2);
        for (int i = 0; i < 40; i++) {
            x.put(i, 2);
        }
        Tally.same("isObject() of 40 opening brackets", x.isObject(), 0);
        Tally.same("rank() of 40 opening brackets", x.rank(), -2);
        for (int i = 0; i < 40; i++) {
            x.put(i, 3);
        }
        Tally.same("isObject() of 40 closing brackets", x.isObject(), 0);
    }

    private static void treeRows() {
        x = Tally.about("families, trees: each subtree may be empty");
        x.selectTrees(1);
        judge(1, 0);
        judge(0, 1);
        judge(0, -1);
        x.selectTrees(5);
        judge(1, 0, 0, 0, 0, 0);
        judge(1, 4, 3, 2, 1, 0);
        judge(1, 4, 0, 2, 0, 0);
        judge(1, 2, 1, 0, 1, 0);
        judge(0, 5, 3, 2, 1, 0);
        judge(0, 4, 4, 2, 1, 0);
        judge(0, 4, 3, 2, 1, 1);
        judge(0, 2, 2, 0, 1, 0);
        judge(0, 2, 1, 0, 2, 0);
        judge(0, 2, 1, 1, 1, 0);
        judge(0, 0, 4, 0, 0, 0);
        judge(0, 0, 0, 0, 0, -1);
        judge(0, 1000, 0, 0, 0, 0);
        judge(0, -1000, 0, 0, 0, 0);
    }

    private static void partitionRows() {
        x = Tally.about("families, partitions: from 0 to the greatest part, that do not increase, whose sum is n");
        x.selectPartitions(6, 3);
        judge(1, 3, 3, 0, 0, 0, 0);
        judge(1, 2, 2, 2, 0, 0, 0);
        judge(1, 1, 1, 1, 1, 1, 1);
        judge(0, 4, 2, 0, 0, 0, 0);
        judge(0, 6, 0, 0, 0, 0, 0);
        judge(0, 3, 2, 0, 0, 0, 0);
        judge(0, 3, 3, 1, 0, 0, 0);
        judge(0, 2, 3, 1, 0, 0, 0);
        judge(0, 3, 2, 0, 1, 0, 0);
        judge(0, 3, 2, 1, 1, 0, -1);
        judge(0, 0, 0, 0, 0, 0, 6);
        judge(0, 0, 0, 0, 0, 0, 0);
        judge(0, -1, -1, -1, -1, -1, -1);
        judge(0, 1000, -994, 0, 0, 0, 0);
    }

    private static void arrangementRows() {
        x = Tally.about("families, arrangements: 0, 1, 2 and 3 occur as often as the parameters say");
        x.selectArrangements(0, 2, 0, 1);
        judge(1, 1, 1, 3);
        judge(1, 3, 1, 1);
        judge(0, 1, 3, 3);
        judge(0, 1, 1, 1);
        judge(0, 1, 1, 0);
        judge(0, 1, 1, 2);
        judge(0, 1, 1, 4);
        judge(0, 1, 1, -1);
        judge(0, 1, 1, 1000);
        judge(0, -1000, 1, 3);
    }

    // ---- ranks

    private static void rankWithoutAnObject() {
        for (int family = 0; family < 6; family++) {
            Tally.about("promise 15, NOT_AN_OBJECT");
            x = middleOf(family);
            Tally.same("rank() of family " + family, x.rank(), MIDDLE[family]);
            int before = x.put(x.length() - 1, -1);
            Tally.same("rank() of family " + family + " without an object", x.rank(), -2);
            x.put(x.length() - 1, before);
            Tally.same("rank() of family " + family + " again", x.rank(), MIDDLE[family]);
        }
    }

    /** Ranks that would be in range if they were cut to an int, or if their sign were lost, are out of range. */
    private static void unrankOutOfRange() {
        for (int family = 0; family < 6; family++) {
            Tally.about("promise 16, rank: 0 to the number of objects minus 1");
            x = middleOf(family);
            long count = x.count();
            long[] wrong = {-1, -2, -count, count, count + 1, 1L << 31, 1L << 32, (1L << 32) + 1, 1L << 62, Long.MAX_VALUE,
                Long.MIN_VALUE, Long.MIN_VALUE + 1, -(1L << 32)};
            for (long rank : wrong) {
                Tally.same("family " + family + " unrank(" + rank + ")", x.unrank(rank), -1);
                Tally.same("family " + family + " rank()", x.rank(), MIDDLE[family]);
            }
            Tally.same("family " + family + " unrank of the last", x.unrank(count - 1), 1);
            Tally.same("family " + family + " unrank(0)", x.unrank(0), 1);
        }
    }

    private static void unrankTellsWhetherTheBufferChanges() {
        x = Tally.about("promise 16, 1 if this changes the buffer, 0 otherwise");
        x.selectArrangements(1, 1, 1, 1);
        Tally.same("unrank(0) of the first", x.unrank(0), 0);
        Tally.same("unrank(1)", x.unrank(1), 1);
        Tally.same("unrank(1) again", x.unrank(1), 0);
        fill(3, 2, 1, 0);
        Tally.same("unrank(23) of what was put", x.unrank(23), 0);
        x.put(3, 1);
        Tally.same("unrank(23) with another last element", x.unrank(23), 1);
        x.put(0, -7);
        Tally.same("unrank(23) with another first element", x.unrank(23), 1);
        x.put(4, 55);
        Tally.same("unrank(23) with another place behind", x.unrank(23), 0);
        Tally.same("get(4)", x.get(4), 55);
        x.selectPermutations(1, 0);
        Tally.same("unrank(0) of one object", x.unrank(0), 0);
        x.put(0, 1);
        Tally.same("unrank(0) of one object, over none", x.unrank(0), 1);
        Tally.same("get(0)", x.get(0), 0);
    }

    private static void stepsOutOfRange() {
        x = Tally.about("promise 17, by: -1000000 to 1000000");
        x.selectPermutations(20, 0);
        x.unrank(5000000);
        for (int by : new int[] {-1000001, 1000001, LEAST, LEAST + 1, MOST, 1 << 30, -(1 << 30), 2000000}) {
            Tally.same("step(" + by + ")", x.step(by), -1);
            Tally.same("rank()", x.rank(), 5000000);
        }
        Tally.same("step(1000000)", x.step(1000000), 1);
        Tally.same("rank()", x.rank(), 6000000);
        Tally.same("step(-1000000)", x.step(-1000000), 1);
        Tally.same("step(-999999)", x.step(-999999), 1);
        Tally.same("rank()", x.rank(), 4000001);
    }

    private static void stepsToBothEnds() {
        Tally.about("promise 17, some places further on in the list");
        for (int family = 0; family < 6; family++) {
            x = middleOf(family);
            int last = (int) x.count() - 1;
            int middle = (int) MIDDLE[family];
            String name = "family " + family + " ";
            Tally.same(name + "step to the first", x.step(-middle), 1);
            Tally.same(name + "rank() of the first", x.rank(), 0);
            Tally.same(name + "step from the first to the last", x.step(last), 1);
            Tally.same(name + "rank() of the last", x.rank(), last);
            Tally.same(name + "step from the last to the first", x.step(-last), 1);
            Tally.same(name + "rank() of the first", x.rank(), 0);
        }
    }

    private static void stepsOverBothEnds() {
        Tally.about("promise 17, NONE if there is no object at this place (nothing changes then)");
        for (int family = 0; family < 6; family++) {
            x = middleOf(family);
            int last = (int) x.count() - 1;
            int middle = (int) MIDDLE[family];
            int[] row = Tally.elementsOf(x, 60);
            for (int by : new int[] {-middle - 1, last - middle + 1, -last - 1, last + 1, 1000000, -1000000}) {
                Tally.same("family " + family + " step(" + by + ")", x.step(by), -6);
                Tally.elements("family " + family + " step(" + by + ")", x, row);
            }
        }
    }

    private static void stepsThatAreTheGreatest() {
        x = Tally.about("promise 17, the greatest steps from the greatest rank");
        x.selectPermutations(20, 1);
        x.unrank(FACTORIAL_20 - 1);
        Tally.same("step(1000000)", x.step(1000000), -6);
        Tally.same("step(1)", x.step(1), -6);
        Tally.same("step(-1000000)", x.step(-1000000), 1);
        Tally.same("rank()", x.rank(), FACTORIAL_20 - 1000001);
        Tally.same("step(999999)", x.step(999999), 1);
        Tally.same("step(2)", x.step(2), -6);
        Tally.same("step(1)", x.step(1), 1);
        Tally.same("rank()", x.rank(), FACTORIAL_20 - 1);
        x.unrank(999999);
        Tally.same("step(-1000000)", x.step(-1000000), -6);
        Tally.same("step(-999999)", x.step(-999999), 1);
        Tally.same("rank()", x.rank(), 0);
    }

    private static void stepsOfOneObject() {
        x = Tally.about("promise 17, a list of one object");
        x.selectPartitions(60, 1);
        Tally.same("step(1)", x.step(1), -6);
        Tally.same("step(-1)", x.step(-1), -6);
        Tally.same("step(0)", x.step(0), 1);
        Tally.same("rank()", x.rank(), 0);
    }

    private static void stepsWithSeveralErrors() {
        x = Tally.about("errors, the order of the @return line is the order of the checks; promise 17");
        x.selectPermutations(3, 0);
        Tally.same("step(1000001), BAD_VALUE before NONE", x.step(1000001), -1);
        x.put(0, 7);
        Tally.same("step(1000001), BAD_VALUE before NOT_AN_OBJECT", x.step(1000001), -1);
        Tally.same("step(-1000001), BAD_VALUE before NOT_AN_OBJECT", x.step(-1000001), -1);
        Tally.same("step(6), NOT_AN_OBJECT before NONE", x.step(6), -2);
        Tally.same("step(-1), NOT_AN_OBJECT before NONE", x.step(-1), -2);
        Tally.same("step(0), NOT_AN_OBJECT", x.step(0), -2);
    }

    // ---- draws

    private static void drawOfOneObject() {
        x = Tally.about("promise 18, modulo the number of objects, of one");
        for (long seed : new long[] {0, 1, -1, Long.MIN_VALUE, Long.MAX_VALUE}) {
            Tally.same("draw(" + seed + ")", x.draw(seed), 0);
        }
        x.selectArrangements(0, 0, 0, 20);
        Tally.same("draw(8)", x.draw(8), 0);
        Tally.same("get(19)", x.get(19), 3);
    }

    /** The document's rule in numbers without a sign. */
    private static long drawn(long seed, long count) {
        BigInteger mixed = BigInteger.valueOf(seed).multiply(FACTOR).add(SUMMAND).mod(TWO_64);
        BigInteger folded = mixed.xor(mixed.shiftRight(33)).shiftRight(1);
        return folded.mod(BigInteger.valueOf(count)).longValueExact();
    }

    private static void drawWithAnySeed() {
        Tally.about("promise 18, seed: any number");
        int[][] greatest = {{60, 30, 2}, {20, 1}, {20, 2}, {30}, {60, 60}, {5, 5, 5, 5}};
        // Seeds that lead to these values of x: the signs and the bits that the shifts move.
        long[] values = {0, 1, -1, Long.MIN_VALUE, Long.MAX_VALUE, 1L << 33, (1L << 33) - 1, -(1L << 33), 1L << 32};
        for (int family = 0; family < 6; family++) {
            for (long value : values) {
                long seed = BigInteger.valueOf(value).subtract(SUMMAND).multiply(FACTOR.modInverse(TWO_64)).longValue();
                drawIs(family, greatest[family], seed);
                drawIs(family, FAMILIES[family], seed);
                drawIs(family, greatest[family], value);
            }
        }
    }

    private static void drawIs(int family, int[] p, long seed) {
        x = new EnumerativeCoder();
        ListsTest.select(x, family, p);
        long due = drawn(seed, x.count());
        Tally.same("family " + family + " draw(" + seed + ")", x.draw(seed), due);
        Tally.same("family " + family + " rank() after it", x.rank(), due);
        Tally.same("family " + family + " unrank of it", x.unrank(due), 0);
    }

    private static void drawOverNoObject() {
        x = Tally.about("promise 18, stores an object");
        x.selectWords(2, 2);
        fill(-1000, 1000, 7, 7, 7);
        Tally.same("draw(7)", x.draw(7), 2);
        Tally.elements("draw(7)", x, 0, 1, 2, 3, 7);
    }

    private static void theLastPromisedCall() {
        x = Tally.about("an object is used for at most 512 calls");
        x.selectPermutations(20, 1);
        for (int call = 2; call <= 510; call++) {
            Tally.same("step(1000)", x.step(1000), 1);
        }
        Tally.same("rank() as call 511", x.rank(), 509000);
        Tally.same("transform() as call 512", x.transform(), 1);
    }
}
