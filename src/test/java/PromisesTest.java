/** For each promise of the document: ordinary inputs, the edges that it names, and wrong inputs. */
public final class PromisesTest {
    private static final int LEAST = Integer.MIN_VALUE;
    private static final int MOST = Integer.MAX_VALUE;
    private static final long FACTORIAL_20 = 2432902008176640000L;
    private static final long CHOOSE_60_30 = 118264581564861424L;

    private static String promise = "";
    private static EnumerativeCoder x = new EnumerativeCoder();

    public static void main(String[] args) {
        families();
        buffer();
        ranks();
        objects();
        archive();
        Tally.end();
    }

    private static void families() {
        newObject();
        selectSubsets();
        selectPermutations();
        selectWords();
        selectTrees();
        selectPartitions();
        selectArrangements();
        selectionKeepsTheOtherPlaces();
        family();
        parameter();
        length();
        count();
    }

    private static void buffer() {
        put();
        get();
        isObject();
    }

    private static void ranks() {
        rank();
        unrank();
        step();
        draw();
    }

    private static void objects() {
        transform();
        transformSubsets();
        transformPartitions();
        toWord();
        toTree();
        descents();
    }

    private static void archive() {
        store();
        storeIsFull();
        storeAtTheGreatestTotal();
        fetch();
        clear();
        entries();
        total();
        code();
        decode();
        sort();
        sortEqualEntries();
    }

    private static void begin(int number) {
        promise = "promise " + number + ": ";
        x = new EnumerativeCoder();
    }

    private static void same(String call, long got, long want) {
        Tally.same(promise + call, got, want);
    }

    private static void elements(String after, int... want) {
        Tally.elements(promise + after, x, want);
    }

    private static void newObject() {
        begin(1);
        same("family()", x.family(), 0);
        for (int i = 0; i < 4; i++) {
            same("parameter(" + i + ")", x.parameter(i), 0);
        }
        same("length()", x.length(), 0);
        same("count()", x.count(), 1);
        elements("new object", new int[60]);
        same("isObject()", x.isObject(), 1);
        same("rank()", x.rank(), 0);
        same("unrank(0)", x.unrank(0), 0);
        same("transform()", x.transform(), 0);
        same("entries()", x.entries(), 0);
        same("total()", x.total(), 1);
        same("code()", x.code(), 0);
        EnumerativeCoder other = new EnumerativeCoder();
        other.selectPermutations(5, 0);
        other.store();
        same("family() beside another object", x.family(), 0);
        same("entries() beside another object", x.entries(), 0);
        same("get(1) beside another object", x.get(1), 0);
    }

    private static void selectSubsets() {
        begin(2);
        for (int order = 0; order <= 2; order++) {
            same("selectSubsets(7, 4, " + order + ")", x.selectSubsets(7, 4, order), 4);
            elements("selectSubsets(7, 4, " + order + ")", 0, 1, 2, 3);
            same("parameter(2)", x.parameter(2), order);
        }
        same("selectSubsets(60, 60, 2)", x.selectSubsets(60, 60, 2), 60);
        same("get(59)", x.get(59), 59);
        same("selectSubsets(60, 0, 1)", x.selectSubsets(60, 0, 1), 0);
        same("selectSubsets(0, 0, 0)", x.selectSubsets(0, 0, 0), 0);
        x.selectSubsets(6, 2, 1);
        x.unrank(8);
        int[][] wrong = {{61, 2, 0}, {-1, 0, 0}, {5, 6, 0}, {5, -1, 0}, {5, 2, 3}, {5, 2, -1}, {LEAST, 0, 0},
            {MOST, 0, 0}, {60, MOST, 0}, {5, LEAST, 0}, {5, 2, MOST}, {5, 2, LEAST}, {60, 61, 0}};
        for (int[] w : wrong) {
            same("selectSubsets, wrong", x.selectSubsets(w[0], w[1], w[2]), -1);
        }
        same("rank() after wrong calls", x.rank(), 8);
        same("count() after wrong calls", x.count(), 15);
    }

    private static void selectPermutations() {
        begin(3);
        same("selectPermutations(5, 0)", x.selectPermutations(5, 0), 5);
        elements("selectPermutations(5, 0)", 0, 1, 2, 3, 4);
        x.unrank(77);
        same("selectPermutations(4, 1)", x.selectPermutations(4, 1), 4);
        elements("selectPermutations(4, 1)", 0, 1, 2, 3);
        same("selectPermutations(1, 0)", x.selectPermutations(1, 0), 1);
        same("selectPermutations(1, 1)", x.selectPermutations(1, 1), 1);
        same("selectPermutations(20, 1)", x.selectPermutations(20, 1), 20);
        same("get(19)", x.get(19), 19);
        int[][] wrong = {{0, 0}, {21, 0}, {5, 2}, {5, -1}, {-1, 0}, {LEAST, 0}, {MOST, 1}, {5, MOST}, {5, LEAST}};
        for (int[] w : wrong) {
            same("selectPermutations, wrong", x.selectPermutations(w[0], w[1]), -1);
        }
        same("count() after wrong calls", x.count(), FACTORIAL_20);
    }

    private static void selectWords() {
        begin(4);
        same("selectWords(3, 2)", x.selectWords(3, 2), 6);
        elements("selectWords(3, 2)", 0, 0, 0, 1, 1, 1);
        same("selectWords(1, 1)", x.selectWords(1, 1), 2);
        elements("selectWords(1, 1)", 0, 1);
        same("selectWords(20, 2)", x.selectWords(20, 2), 40);
        same("get(19)", x.get(19), 0);
        same("get(20)", x.get(20), 1);
        int[][] wrong = {{0, 1}, {21, 1}, {3, 0}, {3, 3}, {-1, 1}, {LEAST, 1}, {MOST, 1}, {3, LEAST}, {3, MOST}};
        for (int[] w : wrong) {
            same("selectWords, wrong", x.selectWords(w[0], w[1]), -1);
        }
        same("length() after wrong calls", x.length(), 40);
        same("parameter(1) after wrong calls", x.parameter(1), 2);
    }

    private static void selectTrees() {
        begin(5);
        same("selectTrees(4)", x.selectTrees(4), 4);
        elements("selectTrees(4)", 0, 0, 0, 0);
        x.unrank(13);
        elements("unrank(13)", 3, 2, 1, 0);
        same("selectTrees(4) again", x.selectTrees(4), 4);
        elements("selectTrees(4) again", 0, 0, 0, 0);
        same("selectTrees(1)", x.selectTrees(1), 1);
        same("selectTrees(30)", x.selectTrees(30), 30);
        for (int wrong : new int[] {0, 31, -1, LEAST, MOST}) {
            same("selectTrees(" + wrong + ")", x.selectTrees(wrong), -1);
        }
        same("length() after wrong calls", x.length(), 30);
    }

    private static void selectPartitions() {
        begin(6);
        same("selectPartitions(6, 4)", x.selectPartitions(6, 4), 6);
        elements("selectPartitions(6, 4)", 1, 1, 1, 1, 1, 1);
        same("selectPartitions(1, 1)", x.selectPartitions(1, 1), 1);
        elements("selectPartitions(1, 1)", 1);
        same("selectPartitions(60, 60)", x.selectPartitions(60, 60), 60);
        same("get(59)", x.get(59), 1);
        int[][] wrong = {{0, 0}, {0, 1}, {61, 1}, {6, 7}, {6, 0}, {6, -1}, {-1, -1}, {LEAST, 1}, {MOST, 1},
            {6, LEAST}, {6, MOST}, {60, 61}};
        for (int[] w : wrong) {
            same("selectPartitions, wrong", x.selectPartitions(w[0], w[1]), -1);
        }
        same("count() after wrong calls", x.count(), 966467);
    }

    private static void selectArrangements() {
        begin(7);
        same("selectArrangements(1, 2, 1, 2)", x.selectArrangements(1, 2, 1, 2), 6);
        elements("selectArrangements(1, 2, 1, 2)", 0, 1, 1, 2, 3, 3);
        same("selectArrangements(0, 0, 0, 1)", x.selectArrangements(0, 0, 0, 1), 1);
        elements("selectArrangements(0, 0, 0, 1)", 3);
        same("selectArrangements(20, 0, 0, 0)", x.selectArrangements(20, 0, 0, 0), 20);
        same("selectArrangements(0, 0, 20, 0)", x.selectArrangements(0, 0, 20, 0), 20);
        same("selectArrangements(5, 5, 5, 5)", x.selectArrangements(5, 5, 5, 5), 20);
        int[][] wrong = {{0, 0, 0, 0}, {5, 5, 5, 6}, {21, 0, 0, 0}, {0, 21, 0, 0}, {0, 0, 21, 0}, {0, 0, 0, 21},
            {-1, 5, 5, 5}, {5, -1, 5, 5}, {5, 5, -1, 5}, {5, 5, 5, -1}, {MOST, MOST, 3, 0}, {LEAST, LEAST, 5, 0},
            {20, 1, 0, 0}, {20, 20, 20, 20}, {21, -1, 0, 0}};
        for (int[] w : wrong) {
            same("selectArrangements, wrong", x.selectArrangements(w[0], w[1], w[2], w[3]), -1);
        }
        same("count() after wrong calls", x.count(), 11732745024L);
    }

    /** To store an object means to write its elements; the other places keep their values. */
    private static void selectionKeepsTheOtherPlaces() {
        begin(2);
        for (int i = 0; i < 60; i++) {
            x.put(i, 500 + i);
        }
        x.selectSubsets(9, 3, 0);
        elements("selectSubsets(9, 3, 0)", 0, 1, 2, 503, 504);
        x.selectWords(1, 1);
        elements("selectWords(1, 1)", 0, 1, 2, 503);
        x.selectTrees(1);
        x.unrank(0);
        x.draw(5);
        elements("selectTrees(1)", 0, 1, 2, 503);
        same("get(59)", x.get(59), 559);
    }

    private static void family() {
        begin(8);
        same("family()", x.family(), 0);
        x.selectPermutations(3, 0);
        same("family() of permutations", x.family(), 1);
        x.selectWords(3, 1);
        same("family() of words", x.family(), 2);
        x.selectTrees(3);
        same("family() of trees", x.family(), 3);
        x.selectPartitions(3, 3);
        same("family() of partitions", x.family(), 4);
        x.selectArrangements(1, 0, 0, 1);
        same("family() of arrangements", x.family(), 5);
        x.selectSubsets(3, 1, 0);
        same("family() of subsets", x.family(), 0);
        x.selectTrees(0);
        same("family() after a wrong call", x.family(), 0);
    }

    private static void parameters(String of, int... want) {
        for (int i = 0; i < want.length; i++) {
            same("parameter(" + i + ") of " + of, x.parameter(i), want[i]);
        }
        for (int i : new int[] {-1, 4, LEAST, MOST}) {
            same("parameter(" + i + ") of " + of, x.parameter(i), -1);
        }
    }

    private static void parameter() {
        begin(9);
        x.selectSubsets(9, 4, 2);
        parameters("subsets", 9, 4, 2, 0);
        x.selectPermutations(6, 1);
        parameters("permutations", 6, 1, 0, 0);
        x.selectWords(7, 2);
        parameters("words", 7, 2, 0, 0);
        x.selectTrees(8);
        parameters("trees", 8, 0, 0, 0);
        x.selectPartitions(9, 5);
        parameters("partitions", 9, 5, 0, 0);
        x.selectArrangements(1, 2, 3, 4);
        parameters("arrangements", 1, 2, 3, 4);
    }

    private static void length() {
        begin(10);
        same("length()", x.length(), 0);
        x.selectSubsets(9, 4, 2);
        same("length() of subsets", x.length(), 4);
        x.selectPermutations(6, 1);
        same("length() of permutations", x.length(), 6);
        x.selectWords(7, 2);
        same("length() of words", x.length(), 14);
        x.selectTrees(8);
        same("length() of trees", x.length(), 8);
        x.selectPartitions(9, 5);
        same("length() of partitions", x.length(), 9);
        x.selectArrangements(1, 2, 3, 4);
        same("length() of arrangements", x.length(), 10);
    }

    private static void count() {
        begin(11);
        for (int order = 0; order <= 2; order++) {
            x.selectSubsets(60, 30, order);
            same("count() of 30 of 60", x.count(), CHOOSE_60_30);
        }
        x.selectSubsets(60, 0, 0);
        same("count() of 0 of 60", x.count(), 1);
        x.selectSubsets(60, 59, 0);
        same("count() of 59 of 60", x.count(), 60);
        x.selectPermutations(20, 0);
        same("count() of 20 permuted", x.count(), FACTORIAL_20);
        x.selectPermutations(1, 1);
        same("count() of 1 permuted", x.count(), 1);
        x.selectWords(20, 1);
        same("count() of 20 pairs", x.count(), 6564120420L);
        x.selectWords(20, 2);
        same("count() of 20 pairs of 2 types", x.count(), 6564120420L << 20);
        x.selectTrees(30);
        same("count() of 30 nodes", x.count(), 3814986502092304L);
        x.selectTrees(1);
        same("count() of 1 node", x.count(), 1);
        x.selectPartitions(60, 1);
        same("count() of 60 in ones", x.count(), 1);
        x.selectPartitions(60, 2);
        same("count() of 60 in ones and twos", x.count(), 31);
        x.selectArrangements(10, 10, 0, 0);
        same("count() of 10 and 10", x.count(), 184756);
    }

    private static void put() {
        begin(12);
        same("put(0, 7)", x.put(0, 7), 0);
        same("put(0, -1000)", x.put(0, -1000), 7);
        same("put(0, 1000)", x.put(0, 1000), -1000);
        same("put(59, 3)", x.put(59, 3), 0);
        same("put(59, 4)", x.put(59, 4), 3);
        int[][] wrong = {{-1, 0}, {60, 0}, {0, 1001}, {0, -1001}, {LEAST, 0}, {MOST, 0}, {0, LEAST}, {0, MOST}};
        for (int[] w : wrong) {
            same("put, wrong", x.put(w[0], w[1]), -1001);
        }
        same("get(0) after wrong calls", x.get(0), 1000);
        same("get(59) after wrong calls", x.get(59), 4);
        x.selectPermutations(3, 0);
        same("put(3, 9) behind the object", x.put(3, 9), 0);
        same("isObject()", x.isObject(), 1);
    }

    private static void get() {
        begin(13);
        x.put(0, -5);
        x.put(30, 31);
        x.put(59, 999);
        same("get(0)", x.get(0), -5);
        same("get(30)", x.get(30), 31);
        same("get(31)", x.get(31), 0);
        same("get(59)", x.get(59), 999);
        for (int wrong : new int[] {-1, 60, LEAST, MOST}) {
            same("get(" + wrong + ")", x.get(wrong), -1001);
        }
    }

    private static void judge(int want, int... row) {
        Tally.fill(x, row);
        same("isObject() of family " + x.family() + " for " + java.util.Arrays.toString(row), x.isObject(), want);
    }

    private static void isObject() {
        begin(14);
        x.selectSubsets(6, 3, 0);
        judge(1, 0, 2, 5);
        judge(0, 0, 2, 6);
        judge(0, -1, 2, 5);
        judge(0, 0, 2, 2);
        judge(0, 2, 0, 5);
        x.selectPermutations(3, 1);
        judge(1, 2, 0, 1);
        judge(0, 2, 0, 2);
        judge(0, 3, 0, 1);
        judge(0, -1, 0, 1);
        judge(0, 32, 0, 1);
        x.selectWords(2, 1);
        judge(1, 0, 1, 0, 1);
        judge(0, 0, 0, 1, 0);
        judge(0, 1, 0, 0, 1);
        judge(0, 2, 3, 0, 1);
        judge(0, 0, 1, 1, 0);
        judge(0, 0, 0, 0, 1);
        x.selectWords(2, 2);
        judge(1, 2, 0, 1, 3);
        judge(0, 2, 0, 3, 1);
        judge(0, 4, 5, 0, 1);
        judge(0, -2, -1, 0, 1);
        x.selectTrees(3);
        judge(1, 1, 0, 0);
        judge(1, 0, 1, 0);
        judge(0, 1, 1, 0);
        judge(0, 3, 0, 0);
        judge(0, 0, 2, 0);
        judge(0, 0, -1, 0);
        judge(0, 0, 0, 1000);
        x.selectPartitions(4, 3);
        judge(1, 3, 1, 0, 0);
        judge(0, 4, 0, 0, 0);
        judge(0, 1, 3, 0, 0);
        judge(0, 2, 1, 0, 0);
        judge(0, 3, 2, 0, 0);
        judge(0, 3, 3, -1, -1);
        x.selectArrangements(1, 0, 2, 0);
        judge(1, 2, 0, 2);
        judge(0, 0, 0, 2);
        judge(0, 2, 1, 2);
        judge(0, 2, 4, 2);
        judge(0, 2, -1, 2);
    }

    private static void rankIs(long want, int... row) {
        Tally.fill(x, row);
        same("rank() of " + java.util.Arrays.toString(row), x.rank(), want);
    }

    private static void rank() {
        begin(15);
        x.selectSubsets(5, 3, 0);
        rankIs(0, 0, 1, 2);
        rankIs(5, 0, 3, 4);
        rankIs(9, 2, 3, 4);
        rankIs(-2, 2, 3, 5);
        x.selectSubsets(5, 3, 1);
        rankIs(7, 0, 3, 4);
        x.selectSubsets(5, 3, 2);
        rankIs(9, 0, 1, 4);
        rankIs(4, 0, 3, 4);
        rankIs(6, 2, 3, 4);
        x.selectPermutations(3, 0);
        rankIs(4, 2, 0, 1);
        rankIs(-2, 2, 0, 0);
        x.selectPermutations(3, 1);
        rankIs(2, 2, 0, 1);
        rankIs(3, 2, 1, 0);
        rankIs(5, 1, 0, 2);
        x.selectWords(2, 2);
        rankIs(0, 0, 0, 1, 1);
        rankIs(3, 0, 2, 3, 1);
        rankIs(7, 2, 3, 2, 3);
        rankIs(-2, 2, 3, 2, 1);
        x.selectTrees(3);
        rankIs(1, 0, 1, 0);
        rankIs(4, 2, 1, 0);
        rankIs(-2, 3, 1, 0);
        x.selectPartitions(5, 3);
        rankIs(3, 3, 1, 1, 0, 0);
        rankIs(4, 3, 2, 0, 0, 0);
        rankIs(-2, 4, 1, 0, 0, 0);
        x.selectArrangements(1, 1, 1, 0);
        rankIs(5, 2, 1, 0);
        rankIs(-2, 2, 1, 1);
    }

    private static void unrank() {
        begin(16);
        x.selectPermutations(20, 0);
        same("unrank(20! - 1)", x.unrank(FACTORIAL_20 - 1), 1);
        elements("unrank(20! - 1)", 19, 18, 17, 16, 15);
        same("unrank(20! - 1) again", x.unrank(FACTORIAL_20 - 1), 0);
        same("unrank(20!)", x.unrank(FACTORIAL_20), -1);
        same("unrank(-1)", x.unrank(-1), -1);
        same("unrank of the least long", x.unrank(Long.MIN_VALUE), -1);
        same("unrank of the greatest long", x.unrank(Long.MAX_VALUE), -1);
        same("rank()", x.rank(), FACTORIAL_20 - 1);
        x.put(7, 900);
        same("unrank(20! - 1) over no object", x.unrank(FACTORIAL_20 - 1), 1);
        x.selectSubsets(60, 30, 0);
        same("unrank of the last subset", x.unrank(CHOOSE_60_30 - 1), 1);
        elements("unrank of the last subset", 30, 31, 32);
        same("get(29)", x.get(29), 59);
        x.selectSubsets(60, 30, 2);
        same("unrank of the last subset", x.unrank(CHOOSE_60_30 - 1), 1);
        same("get(28)", x.get(28), 28);
        same("get(29)", x.get(29), 59);
        x.selectTrees(1);
        same("unrank(0)", x.unrank(0), 0);
        same("unrank(1)", x.unrank(1), -1);
    }

    private static void step() {
        begin(17);
        x.selectPermutations(20, 0);
        same("step(1000000)", x.step(1000000), 1);
        same("rank()", x.rank(), 1000000);
        same("step(-1000000)", x.step(-1000000), 1);
        same("step(-1)", x.step(-1), -6);
        same("step(0)", x.step(0), 1);
        same("step(1000001)", x.step(1000001), -1);
        same("step(-1000001)", x.step(-1000001), -1);
        same("step of the least int", x.step(LEAST), -1);
        same("step of the greatest int", x.step(MOST), -1);
        same("rank()", x.rank(), 0);
        x.unrank(FACTORIAL_20 - 3);
        same("step(3)", x.step(3), -6);
        same("step(2)", x.step(2), 1);
        same("rank()", x.rank(), FACTORIAL_20 - 1);
        x.put(0, 0);
        same("step(1) without an object", x.step(1), -2);
        same("step(0) without an object", x.step(0), -2);
        same("step(1000001) without an object", x.step(1000001), -1);
        elements("steps without an object", 0, 18);
    }

    private static void draw() {
        begin(18);
        same("draw(5) of one object", x.draw(5), 0);
        x.selectWords(2, 2);
        same("draw(7)", x.draw(7), 2);
        elements("draw(7)", 0, 1, 2, 3);
        x.selectSubsets(60, 30, 0);
        same("draw(12345)", x.draw(12345), 64567597681579350L);
        same("rank()", x.rank(), 64567597681579350L);
        x.selectPermutations(20, 1);
        for (long seed : new long[] {0, 1, -1, Long.MIN_VALUE, Long.MAX_VALUE, 1L << 40, -987654321987L}) {
            x.put(0, 99);
            long mixed = seed * 6364136223846793005L + 1442695040888963407L;
            long want = ((mixed ^ mixed >>> 33) >>> 1) % FACTORIAL_20;
            same("draw(" + seed + ")", x.draw(seed), want);
            same("rank() after draw(" + seed + ")", x.rank(), want);
        }
    }

    private static void turns(int answer, int[] row, int... want) {
        Tally.fill(x, row);
        String of = " of " + java.util.Arrays.toString(row);
        same("transform()" + of, x.transform(), answer);
        elements("transform()" + of, want);
    }

    private static void transform() {
        begin(19);
        x.selectPermutations(4, 0);
        turns(1, new int[] {1, 2, 3, 0}, 3, 0, 1, 2);
        turns(0, new int[] {1, 0, 3, 2}, 1, 0, 3, 2);
        turns(-2, new int[] {1, 0, 3, 3}, 1, 0, 3, 3);
        x.selectWords(3, 2);
        turns(1, new int[] {0, 2, 3, 1, 2, 3}, 2, 3, 0, 2, 3, 1);
        turns(0, new int[] {0, 2, 3, 2, 3, 1}, 0, 2, 3, 2, 3, 1);
        turns(-2, new int[] {0, 2, 1, 3, 0, 1}, 0, 2, 1, 3, 0, 1);
        x.selectTrees(4);
        turns(1, new int[] {3, 2, 1, 0}, 0, 0, 0, 0);
        turns(1, new int[] {2, 0, 0, 0}, 1, 0, 1, 0);
        x.selectTrees(3);
        turns(0, new int[] {1, 0, 0}, 1, 0, 0);
        turns(-2, new int[] {1, 1, 0}, 1, 1, 0);
        x.selectArrangements(1, 1, 0, 2);
        turns(1, new int[] {0, 1, 3, 3}, 3, 3, 1, 0);
        turns(-2, new int[] {0, 1, 3, 1}, 0, 1, 3, 1);
        x.selectArrangements(1, 2, 0, 2);
        turns(0, new int[] {1, 3, 0, 3, 1}, 1, 3, 0, 3, 1);
    }

    private static void transformSubsets() {
        begin(19);
        x.selectSubsets(6, 4, 2);
        turns(1, new int[] {0, 2, 3, 5}, 1, 4, 3, 5);
        parameters("the complements", 6, 2, 2, 0);
        same("length()", x.length(), 2);
        same("count()", x.count(), 15);
        same("transform() back", x.transform(), 1);
        elements("transform() back", 0, 2, 3, 5);
        x.selectSubsets(4, 2, 0);
        turns(1, new int[] {0, 3}, 1, 2);
        turns(-2, new int[] {1, 4}, 1, 4);
        parameters("subsets that stay", 4, 2, 0, 0);
        x.selectSubsets(3, 3, 1);
        same("transform() of all", x.transform(), 1);
        same("length()", x.length(), 0);
        same("isObject()", x.isObject(), 1);
        x.put(0, 77);
        x.put(2, 78);
        same("transform() of none", x.transform(), 1);
        elements("transform() of none", 0, 1, 2);
        x.selectSubsets(60, 60, 0);
        same("transform() of 60", x.transform(), 1);
        same("transform() of 0", x.transform(), 1);
        same("length()", x.length(), 60);
    }

    private static void transformPartitions() {
        begin(19);
        x.selectPartitions(6, 3);
        turns(1, new int[] {2, 2, 2, 0, 0, 0}, 3, 3, 0, 0, 0, 0);
        turns(0, new int[] {3, 2, 1, 0, 0, 0}, 3, 2, 1, 0, 0, 0);
        turns(-6, new int[] {2, 2, 1, 1, 0, 0}, 2, 2, 1, 1, 0, 0);
        turns(-2, new int[] {4, 1, 1, 0, 0, 0}, 4, 1, 1, 0, 0, 0);
        x.selectPartitions(60, 59);
        same("transform() of sixty ones", x.transform(), -6);
        same("step(1)", x.step(1), 1);
        same("transform() of a two and ones", x.transform(), 1);
        elements("transform() of a two and ones", 59, 1, 0);
    }

    private static void toWord() {
        begin(20);
        x.selectTrees(4);
        Tally.fill(x, 2, 0, 0, 0, 70, 71, 72, 73, 74);
        same("toWord()", x.toWord(), 4);
        elements("toWord()", 0, 0, 1, 0, 1, 1, 0, 1, 74);
        same("family()", x.family(), 2);
        parameters("the words", 4, 1, 0, 0);
        same("count()", x.count(), 14);
        same("toWord() of a word", x.toWord(), -3);
        x.selectTrees(20);
        same("toWord() of 20 nodes", x.toWord(), 20);
        same("length()", x.length(), 40);
        x.selectTrees(21);
        x.put(0, 30);
        same("toWord() of 21 nodes", x.toWord(), -3);
        same("family()", x.family(), 3);
        x.selectTrees(3);
        x.put(1, 2);
        same("toWord() without an object", x.toWord(), -2);
        same("family()", x.family(), 3);
        x.selectPermutations(3, 0);
        x.put(0, 9);
        same("toWord() of a permutation", x.toWord(), -3);
        elements("toWord() of a permutation", 9, 1, 2);
    }

    private static void toTree() {
        begin(21);
        x.selectWords(4, 1);
        Tally.fill(x, 0, 0, 1, 0, 1, 1, 0, 1);
        same("toTree()", x.toTree(), 4);
        elements("toTree()", 2, 0, 0, 0, 1, 1, 0, 1);
        same("family()", x.family(), 3);
        parameters("the trees", 4, 0, 0, 0);
        same("count()", x.count(), 14);
        same("toTree() of a tree", x.toTree(), -3);
        x.selectWords(20, 1);
        same("toTree() of 20 pairs", x.toTree(), 20);
        elements("toTree() of 20 pairs", 19, 18, 17);
        x.selectWords(4, 2);
        same("toTree() with two types", x.toTree(), -3);
        x.put(0, 9);
        same("toTree() with two types, without an object", x.toTree(), -3);
        x.selectWords(4, 1);
        x.put(0, 1);
        same("toTree() without an object", x.toTree(), -2);
        same("family()", x.family(), 2);
        x.selectSubsets(4, 4, 1);
        same("toTree() of a subset", x.toTree(), -3);
    }

    private static void descents() {
        begin(22);
        same("descents() of nothing", x.descents(), 0);
        x.selectPermutations(5, 0);
        same("descents()", x.descents(), 0);
        Tally.fill(x, 2, 1, 4, 3, 0);
        same("descents()", x.descents(), 3);
        x.put(5, -9);
        same("descents() with a place behind the object", x.descents(), 3);
        x.put(0, 1);
        same("descents() without an object", x.descents(), -2);
        x.selectPartitions(5, 3);
        Tally.fill(x, 2, 2, 1, 0, 0);
        same("descents() of a partition", x.descents(), 2);
        x.selectArrangements(2, 0, 0, 2);
        Tally.fill(x, 3, 3, 0, 0);
        same("descents() of an arrangement", x.descents(), 1);
        x.selectTrees(1);
        same("descents() of one element", x.descents(), 0);
    }

    private static void store() {
        begin(23);
        same("store()", x.store(), 0);
        x.selectPermutations(4, 0);
        x.unrank(5);
        same("store()", x.store(), 1);
        same("store()", x.store(), 2);
        same("total()", x.total(), 576);
        same("code()", x.code(), 125);
        x.put(0, 9);
        same("store() without an object", x.store(), -2);
        same("entries()", x.entries(), 3);
        x.unrank(6);
        same("fetch(1)", x.fetch(1), 1);
        same("rank()", x.rank(), 5);
    }

    private static void storeIsFull() {
        begin(23);
        for (int i = 0; i < 10; i++) {
            same("store()", x.store(), i);
        }
        same("store() of an eleventh entry", x.store(), -4);
        same("entries()", x.entries(), 10);
        x.selectPermutations(2, 0);
        x.put(0, 5);
        same("store() without an object and without room", x.store(), -2);
        x.clear();
        x.unrank(0);
        same("store() after clear()", x.store(), 0);
    }

    private static void storeAtTheGreatestTotal() {
        begin(23);
        x.selectPermutations(20, 0);
        same("store() of 20!", x.store(), 0);
        x.selectPermutations(2, 0);
        same("store() of 20! * 2", x.store(), -4);
        x.selectPermutations(1, 0);
        same("store() of 20! * 1", x.store(), 1);
        same("total()", x.total(), FACTORIAL_20);
        x.clear();
        // 14 has 2^7 partitions with parts up to 10, and 16 has 2^6 with parts up to 4.
        x.selectPartitions(14, 10);
        x.unrank(127);
        for (int i = 0; i < 8; i++) {
            same("store() of 2^7", x.store(), i);
        }
        x.selectSubsets(13, 2, 0);
        same("store() of 2^56 * 78", x.store(), -4);
        x.selectSubsets(60, 30, 0);
        same("store() of 2^56 * C(60, 30)", x.store(), -4);
        x.selectPartitions(16, 4);
        x.unrank(63);
        same("store() of 2^56 * 2^6", x.store(), 8);
        same("total()", x.total(), 1L << 62);
        same("code()", x.code(), (1L << 62) - 1);
        x.selectSubsets(2, 1, 0);
        same("store() of 2^62 * 2", x.store(), -4);
        x.selectSubsets(2, 2, 0);
        same("store() of 2^62 * 1", x.store(), 9);
        same("decode(2^62)", x.decode(1L << 62), -1);
        same("decode(0)", x.decode(0), 9);
        same("decode(2^62 - 1)", x.decode((1L << 62) - 1), 9);
        same("code()", x.code(), (1L << 62) - 1);
    }

    private static void fetch() {
        begin(24);
        for (int wrong : new int[] {0, -1, LEAST, MOST}) {
            same("fetch(" + wrong + ") of none", x.fetch(wrong), -5);
        }
        x.selectSubsets(7, 3, 2);
        x.unrank(20);
        int[] kept = Tally.elementsOf(x, 3);
        x.store();
        x.selectTrees(6);
        x.unrank(100);
        x.store();
        same("transform()", x.transform(), 1);
        same("fetch(0)", x.fetch(0), 0);
        parameters("the fetched subsets", 7, 3, 2, 0);
        elements("fetch(0)", kept);
        same("transform()", x.transform(), 1);
        same("fetch(0) again", x.fetch(0), 0);
        parameters("the fetched subsets", 7, 3, 2, 0);
        same("rank()", x.rank(), 20);
        same("fetch(1)", x.fetch(1), 3);
        same("rank()", x.rank(), 100);
        for (int wrong : new int[] {2, -1, 10, LEAST, MOST}) {
            same("fetch(" + wrong + ")", x.fetch(wrong), -5);
        }
        same("family()", x.family(), 3);
        same("entries()", x.entries(), 2);
        x.clear();
        same("fetch(0) after clear()", x.fetch(0), -5);
    }

    private static void clear() {
        begin(25);
        same("clear() of none", x.clear(), 0);
        x.selectPermutations(3, 0);
        x.unrank(4);
        x.store();
        x.store();
        same("clear()", x.clear(), 2);
        same("clear() again", x.clear(), 0);
        same("entries()", x.entries(), 0);
        same("total()", x.total(), 1);
        same("code()", x.code(), 0);
        same("rank()", x.rank(), 4);
        same("family()", x.family(), 1);
    }

    private static void entries() {
        begin(26);
        for (int i = 0; i < 10; i++) {
            same("entries()", x.entries(), i);
            x.store();
        }
        same("entries()", x.entries(), 10);
        x.store();
        same("entries() when full", x.entries(), 10);
    }

    private static void total() {
        begin(27);
        same("total() of none", x.total(), 1);
        x.selectPartitions(5, 3);
        x.store();
        same("total()", x.total(), 5);
        x.selectWords(3, 2);
        x.store();
        same("total()", x.total(), 200);
        x.selectPermutations(20, 0);
        x.store();
        same("total() after FULL", x.total(), 200);
        x.sort();
        same("total() after sort()", x.total(), 200);
        x.selectSubsets(7, 2, 0);
        same("total() after a selection", x.total(), 200);
    }

    private static void code() {
        begin(28);
        same("code() of none", x.code(), 0);
        x.selectPartitions(5, 3);
        x.unrank(3);
        x.store();
        same("code()", x.code(), 3);
        x.selectWords(3, 2);
        x.unrank(17);
        x.store();
        same("code()", x.code(), 3 * 40 + 17);
        x.selectPermutations(3, 0);
        x.unrank(5);
        x.store();
        same("code()", x.code(), (3 * 40 + 17) * 6 + 5);
        x.unrank(0);
        same("code() after unrank(0)", x.code(), (3 * 40 + 17) * 6 + 5);
        x.clear();
        x.selectPermutations(20, 0);
        x.unrank(FACTORIAL_20 - 1);
        x.store();
        same("code() of the last of 20!", x.code(), FACTORIAL_20 - 1);
    }

    private static void decode() {
        begin(29);
        same("decode(0) of none", x.decode(0), 0);
        same("decode(1) of none", x.decode(1), -1);
        x.selectPartitions(5, 3);
        x.store();
        x.selectWords(3, 2);
        x.store();
        x.selectPermutations(3, 0);
        x.unrank(5);
        x.store();
        same("decode(827)", x.decode((3 * 40 + 17) * 6 + 5), 2);
        same("code()", x.code(), 827);
        same("rank() of the present object", x.rank(), 5);
        same("decode(827) again", x.decode(827), 0);
        same("decode(826)", x.decode(826), 1);
        same("decode(1200)", x.decode(1200), -1);
        same("decode(-1)", x.decode(-1), -1);
        same("decode of the least long", x.decode(Long.MIN_VALUE), -1);
        same("decode of the greatest long", x.decode(Long.MAX_VALUE), -1);
        same("code()", x.code(), 826);
        same("decode(1199)", x.decode(1199), 3);
        same("fetch(0)", x.fetch(0), 4);
        same("rank()", x.rank(), 4);
        same("fetch(1)", x.fetch(1), 2);
        same("rank()", x.rank(), 39);
        same("fetch(2)", x.fetch(2), 1);
        same("rank()", x.rank(), 5);
    }

    private static void entry(int at, int family, int first, int second, int third, long rank) {
        same("fetch(" + at + ")", x.fetch(at), family);
        same("parameter(0) of entry " + at, x.parameter(0), first);
        same("parameter(1) of entry " + at, x.parameter(1), second);
        same("parameter(2) of entry " + at, x.parameter(2), third);
        same("rank() of entry " + at, x.rank(), rank);
    }

    private static void keep(long rank) {
        x.unrank(rank);
        x.store();
    }

    private static void sort() {
        begin(30);
        same("sort() of none", x.sort(), 0);
        x.selectArrangements(1, 1, 0, 2);
        keep(3);
        same("sort() of one", x.sort(), 0);
        x.selectArrangements(1, 1, 0, 1);
        keep(4);
        x.selectSubsets(5, 3, 1);
        keep(9);
        keep(2);
        x.selectSubsets(5, 3, 0);
        keep(7);
        x.selectSubsets(5, 2, 2);
        keep(6);
        x.selectSubsets(4, 3, 2);
        keep(1);
        x.selectTrees(3);
        keep(4);
        same("sort()", x.sort(), 1);
        entry(0, 0, 4, 3, 2, 1);
        entry(1, 0, 5, 2, 2, 6);
        entry(2, 0, 5, 3, 0, 7);
        entry(3, 0, 5, 3, 1, 2);
        entry(4, 0, 5, 3, 1, 9);
        entry(5, 3, 3, 0, 0, 4);
        entry(6, 5, 1, 1, 0, 4);
        same("parameter(3)", x.parameter(3), 1);
        entry(7, 5, 1, 1, 0, 3);
        same("parameter(3)", x.parameter(3), 2);
        same("sort() again", x.sort(), 0);
        same("entries()", x.entries(), 8);
        same("family() of the present object", x.family(), 5);
    }

    private static void sortEqualEntries() {
        begin(30);
        x.selectPermutations(3, 0);
        keep(2);
        keep(2);
        same("sort() of equal entries", x.sort(), 0);
        keep(1);
        same("sort() with a lesser rank behind", x.sort(), 1);
        entry(0, 1, 3, 0, 0, 1);
        entry(1, 1, 3, 0, 0, 2);
        entry(2, 1, 3, 0, 0, 2);
        same("sort() again", x.sort(), 0);
    }
}
