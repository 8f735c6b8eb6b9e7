import java.util.Arrays;

/** The edges of the families: the sentences of 'Families' and of promises 2 to 11. */
public final class FamilyBoundsTest {
    private static final int LEAST = Integer.MIN_VALUE;
    private static final int MOST = Integer.MAX_VALUE;
    private static final int[] FAR = {LEAST, LEAST + 1, -1001, -2, -1, 0, 1, 2, 3, 20, 21, 30, 31, 60, 61, 1000, MOST - 1, MOST};
    /** An object may be used for 512 calls. */
    private static final int CALLS = 500;

    private static EnumerativeCoder x = new EnumerativeCoder();
    private static int calls = 0;

    public static void main(String[] args) {
        rangesOfSubsets();
        rangesOfPermutations();
        rangesOfWords();
        rangesOfTrees();
        rangesOfPartitions();
        rangesOfArrangements();
        rangesOfParameters();
        endsOfSubsets();
        endsOfPermutations();
        endsOfWords();
        endsOfTrees();
        endsOfPartitions();
        endsOfArrangements();
        subsetsOfNothing();
        seamsOfLexicographicSubsets();
        seamsOfColexicographicSubsets();
        seamsOfTheRevolvingDoor();
        revolvingDoorsWithOneObject();
        plainChangesOfOne();
        seamsOfPlainChanges();
        seamOfWords();
        seamOfTrees();
        seamOfPartitions();
        seamOfArrangements();
        Tally.end();
    }

    // ---- the ranges of the parameters

    /** A selection, with the answer that is due; the object is exchanged before it is used up. */
    private static void selects(int due, int family, int... p) {
        calls++;
        if (calls % CALLS == 0) {
            x = new EnumerativeCoder();
        }
        Tally.same("select of family " + family + " " + Arrays.toString(p), ListsTest.select(x, family, p), due);
    }

    private static void rangesOfSubsets() {
        x = Tally.about("promise 2, n: 0 to 60; k: 0 to n; order: 0 to 2");
        for (int n = -2; n <= 62; n++) {
            for (int k = -2; k <= 62; k++) {
                for (int order = -2; order <= 4; order++) {
                    boolean good = n >= 0 && n <= 60 && k >= 0 && k <= n && order >= 0 && order <= 2;
                    selects(good ? k : -1, 0, n, k, order);
                }
            }
        }
        for (int far : new int[] {LEAST, LEAST + 60, MOST - 60, MOST}) {
            selects(-1, 0, far, 0, 0);
            selects(-1, 0, far, far, 0);
            selects(-1, 0, 60, far, 0);
            selects(-1, 0, 60, 30, far);
        }
    }

    private static void rangesOfPermutations() {
        x = Tally.about("promise 3, n: 1 to 20; order: 0 or 1");
        for (int n : FAR) {
            for (int order : FAR) {
                selects(n >= 1 && n <= 20 && (order == 0 || order == 1) ? n : -1, 1, n, order);
            }
        }
    }

    private static void rangesOfWords() {
        x = Tally.about("promise 4, pairs: 1 to 20; types: 1 or 2");
        for (int pairs : FAR) {
            for (int types : FAR) {
                selects(pairs >= 1 && pairs <= 20 && (types == 1 || types == 2) ? 2 * pairs : -1, 2, pairs, types);
            }
        }
    }

    private static void rangesOfTrees() {
        x = Tally.about("promise 5, nodes: 1 to 30");
        for (int nodes : FAR) {
            selects(nodes >= 1 && nodes <= 30 ? nodes : -1, 3, nodes);
        }
    }

    private static void rangesOfPartitions() {
        x = Tally.about("promise 6, n: 1 to 60; greatest: 1 to n");
        for (int n = -2; n <= 62; n++) {
            for (int greatest = -2; greatest <= 62; greatest++) {
                selects(n >= 1 && n <= 60 && greatest >= 1 && greatest <= n ? n : -1, 4, n, greatest);
            }
        }
        for (int far : new int[] {LEAST, MOST}) {
            selects(-1, 4, far, 1);
            selects(-1, 4, 60, far);
            selects(-1, 4, far, far);
        }
    }

    private static void rangesOfArrangements() {
        x = Tally.about("promise 7, BAD_VALUE if a number is out of range or their sum is not 1 to 20");
        int[] often = {-1, 0, 1, 2, 4, 5, 6, 7, 9, 10, 11, 19, 20, 21, 22};
        for (int zeros : often) {
            for (int ones : often) {
                for (int twos : often) {
                    for (int threes : often) {
                        arrangementsOf(zeros, ones, twos, threes);
                    }
                }
            }
        }
        // With these the sum of the four numbers runs over the end of an int.
        for (int place = 0; place < 4; place++) {
            for (int far : new int[] {LEAST, LEAST + 20, MOST - 20, MOST}) {
                int[] p = {5, 5, 5, 5};
                p[place] = far;
                selects(-1, 5, p);
                p[(place + 1) % 4] = far;
                selects(-1, 5, p);
                p[(place + 2) % 4] = MOST;
                p[(place + 3) % 4] = MOST;
                selects(-1, 5, p);
            }
        }
        selects(-1, 5, 1 << 30, 1 << 30, 1 << 30, (1 << 30) + 20);
    }

    private static void arrangementsOf(int... p) {
        int sum = Arrays.stream(p).sum();
        boolean good = Arrays.stream(p).allMatch(e -> e >= 0 && e <= 20) && sum >= 1 && sum <= 20;
        selects(good ? sum : -1, 5, p);
    }

    private static void rangesOfParameters() {
        x = Tally.about("promise 9, i: 0 to 3; 0 if the family has no such parameter");
        int[][] families = {{60, 59, 2}, {20, 1}, {20, 2}, {30}, {60, 59}, {2, 3, 4, 11}};
        for (int family = 0; family < 6; family++) {
            ListsTest.select(x, family, families[family]);
            for (int i : new int[] {LEAST, -2, -1, 0, 1, 2, 3, 4, 5, MOST}) {
                int due = i < 0 || i > 3 ? -1 : i < families[family].length ? families[family][i] : 0;
                Tally.same("family " + family + " parameter(" + i + ")", x.parameter(i), due);
            }
        }
    }

    // ---- the first and the last object of every family that there is

    private static int[] run(int from, int length) {
        int[] row = new int[length];
        for (int i = 0; i < length; i++) {
            row[i] = from + i;
        }
        return row;
    }

    private static int[] repeated(int length, int... values) {
        int[] row = new int[length];
        for (int i = 0; i < length; i++) {
            row[i] = values[i % values.length];
        }
        return row;
    }

    private static void everyPlace(EnumerativeCoder coder, String after, int[] row) {
        int[] want = repeated(60, 777);
        System.arraycopy(row, 0, want, 0, row.length);
        Tally.elements(after, coder, want);
    }

    /** Goes to both ends of a list and a place beyond; behind the objects stands a value that has to stay. */
    private static void ends(int[] first, int[] last, int family, int... p) {
        String name = "family " + family + " " + Arrays.toString(p) + " ";
        EnumerativeCoder coder = new EnumerativeCoder();
        for (int i = 0; i < 60; i++) {
            coder.put(i, 777);
        }
        Tally.same(name + "select", ListsTest.select(coder, family, p), first.length);
        everyPlace(coder, name + "select", first);
        Tally.same(name + "length()", coder.length(), first.length);
        long count = Reference.count(family, p).longValueExact();
        Tally.same(name + "count()", coder.count(), count);
        firstOne(coder, name);
        Tally.same(name + "unrank of the last", coder.unrank(count - 1), count > 1 ? 1 : 0);
        everyPlace(coder, name + "unrank of the last", last);
        Tally.same(name + "unrank of the last again", coder.unrank(count - 1), 0);
        lastOne(coder, name, count);
        everyPlace(coder, name + "calls at the last", last);
        Tally.same(name + "unrank(0)", coder.unrank(0), count > 1 ? 1 : 0);
        everyPlace(coder, name + "unrank(0)", first);
    }

    private static void firstOne(EnumerativeCoder coder, String name) {
        Tally.same(name + "isObject() of the first", coder.isObject(), 1);
        Tally.same(name + "rank() of the first", coder.rank(), 0);
        Tally.same(name + "unrank(0)", coder.unrank(0), 0);
        Tally.same(name + "unrank(-1)", coder.unrank(-1), -1);
        Tally.same(name + "step(-1) from the first", coder.step(-1), -6);
    }

    private static void lastOne(EnumerativeCoder coder, String name, long count) {
        Tally.same(name + "isObject() of the last", coder.isObject(), 1);
        Tally.same(name + "rank() of the last", coder.rank(), count - 1);
        Tally.same(name + "unrank of the count", coder.unrank(count), -1);
        Tally.same(name + "step(1) from the last", coder.step(1), -6);
        int back = (int) Math.min(count - 1, 1000000);
        Tally.same(name + "step back from the last", coder.step(-back), 1);
        Tally.same(name + "step one too far", coder.step(back + 1), back == 1000000 ? -1 : -6);
        Tally.same(name + "step to the last", coder.step(back), 1);
    }

    private static void endsOfSubsets() {
        Tally.about("families, subsets of every n and k in every order");
        for (int n = 0; n <= 60; n++) {
            for (int k = 0; k <= n; k++) {
                ends(run(0, k), run(n - k, k), 0, n, k, 0);
                ends(run(0, k), run(n - k, k), 0, n, k, 1);
                ends(run(0, k), lastThroughTheDoor(n, k), 0, n, k, 2);
            }
        }
    }

    /** The last object of R(n, k) is the first one of R(n - 1, k - 1), since that runs in reverse, with n - 1. */
    private static int[] lastThroughTheDoor(int n, int k) {
        int[] row = run(0, k);
        if (k > 0) {
            row[k - 1] = n - 1;
        }
        return row;
    }

    private static void endsOfPermutations() {
        Tally.about("families, permutations of every n in both orders");
        for (int n = 1; n <= 20; n++) {
            int[] reversed = new int[n];
            for (int i = 0; i < n; i++) {
                reversed[i] = n - 1 - i;
            }
            ends(run(0, n), reversed, 1, n, 0);
            int[] last = run(0, n);
            if (n > 1) {
                last[0] = 1;
                last[1] = 0;
            }
            ends(run(0, n), last, 1, n, 1);
        }
    }

    private static void endsOfWords() {
        Tally.about("families, words of every number of pairs and types");
        for (int pairs = 1; pairs <= 20; pairs++) {
            ends(nested(pairs), repeated(2 * pairs, 0, 1), 2, pairs, 1);
            ends(nested(pairs), repeated(2 * pairs, 2, 3), 2, pairs, 2);
        }
    }

    private static int[] nested(int pairs) {
        int[] word = new int[2 * pairs];
        Arrays.fill(word, pairs, 2 * pairs, 1);
        return word;
    }

    private static void endsOfTrees() {
        Tally.about("families, trees of every number of nodes");
        for (int nodes = 1; nodes <= 30; nodes++) {
            int[] last = new int[nodes];
            for (int i = 0; i < nodes; i++) {
                last[i] = nodes - 1 - i;
            }
            ends(new int[nodes], last, 3, nodes);
        }
    }

    private static void endsOfPartitions() {
        Tally.about("families, partitions of every n and greatest part");
        for (int n = 1; n <= 60; n++) {
            for (int greatest = 1; greatest <= n; greatest++) {
                int[] last = new int[n];
                Arrays.fill(last, 0, n / greatest, greatest);
                if (n % greatest > 0) {
                    last[n / greatest] = n % greatest;
                }
                ends(repeated(n, 1), last, 4, n, greatest);
            }
        }
    }

    private static void endsOfArrangements() {
        Tally.about("families, arrangements of all four numbers with a sum of 1 to 20");
        for (int zeros = 0; zeros <= 20; zeros++) {
            for (int ones = 0; ones <= 20 - zeros; ones++) {
                for (int twos = 0; twos <= 20 - zeros - ones; twos++) {
                    for (int threes = 0; threes <= 20 - zeros - ones - twos; threes++) {
                        endsOfArrangement(zeros, ones, twos, threes);
                    }
                }
            }
        }
    }

    private static void endsOfArrangement(int... p) {
        int sum = Arrays.stream(p).sum();
        if (sum == 0) {
            return;
        }
        int[] first = new int[sum];
        int[] last = new int[sum];
        int next = 0;
        for (int letter = 0; letter < 4; letter++) {
            for (int i = 0; i < p[letter]; i++) {
                first[next] = letter;
                last[sum - 1 - next] = letter;
                next++;
            }
        }
        ends(first, last, 5, p);
    }

    // ---- the places of a list where one part of its definition ends and the next one begins

    /** The object at a rank, and the next one. */
    private static void neighbours(long rank, int[] one, int[] next, int family, int... p) {
        String name = "family " + family + " " + Arrays.toString(p) + " ";
        EnumerativeCoder coder = new EnumerativeCoder();
        ListsTest.select(coder, family, p);
        coder.unrank(rank);
        Tally.elements(name + "unrank(" + rank + ")", coder, one);
        Tally.same(name + "step(1) from " + rank, coder.step(1), 1);
        Tally.elements(name + "step(1) from " + rank, coder, next);
        Tally.same(name + "rank() after it", coder.rank(), rank + 1);
        Tally.same(name + "step(-1) back", coder.step(-1), 1);
        Tally.elements(name + "step(-1) back", coder, one);
    }

    private static void subsetsOfNothing() {
        for (int order = 0; order <= 2; order++) {
            x = Tally.about("families, subsets: n (0 to 60), k (0 to n)");
            Tally.same("selectSubsets(0, 0, order)", x.selectSubsets(0, 0, order), 0);
            Tally.same("count()", x.count(), 1);
            x.put(0, -1000);
            Tally.same("isObject()", x.isObject(), 1);
            Tally.same("rank()", x.rank(), 0);
            Tally.same("unrank(0)", x.unrank(0), 0);
            Tally.same("unrank(1)", x.unrank(1), -1);
            Tally.same("step(0)", x.step(0), 1);
            Tally.same("step(1)", x.step(1), -6);
            Tally.same("step(-1)", x.step(-1), -6);
            Tally.same("draw(-1)", x.draw(-1), 0);
            Tally.same("transform()", x.transform(), 0);
            Tally.same("descents()", x.descents(), 0);
            Tally.same("store()", x.store(), 0);
            Tally.same("get(0)", x.get(0), -1000);
        }
    }

    private static int[] with(int[] row, int value) {
        return Lists.inserted(row, row.length, value);
    }

    private static void seamsOfLexicographicSubsets() {
        Tally.about("families, order 0 is lexicographic");
        for (int n = 2; n <= 60; n++) {
            for (int k = 1; k < n; k++) {
                long withZero = Reference.choose(n - 1, k - 1).longValueExact();
                neighbours(withZero - 1, Lists.inserted(run(n - k + 1, k - 1), 0, 0), run(1, k), 0, n, k, 0);
            }
        }
    }

    private static void seamsOfColexicographicSubsets() {
        Tally.about("families, order 1 is colexicographic");
        for (int n = 2; n <= 60; n++) {
            for (int k = 1; k < n; k++) {
                long without = Reference.choose(n - 1, k).longValueExact();
                neighbours(without - 1, run(n - 1 - k, k), with(run(0, k - 1), n - 1), 0, n, k, 1);
            }
        }
    }

    private static void seamsOfTheRevolvingDoor() {
        Tally.about("families, R(n, k) is R(n - 1, k), then R(n - 1, k - 1) in reverse with n - 1");
        for (int n = 2; n <= 60; n++) {
            for (int k = 1; k < n; k++) {
                long without = Reference.choose(n - 1, k).longValueExact();
                int[] next = with(lastThroughTheDoor(n - 1, k - 1), n - 1);
                neighbours(without - 1, lastThroughTheDoor(n - 1, k), next, 0, n, k, 2);
            }
        }
    }

    private static void revolvingDoorsWithOneObject() {
        for (int n = 0; n <= 60; n++) {
            for (int k = 0; k <= n; k += Math.max(n, 1)) {
                x = Tally.about("families, R(n, 0) and R(n, n) have one object");
                x.selectSubsets(n, k, 2);
                Tally.same("count()", x.count(), 1);
                Tally.same("step(1)", x.step(1), -6);
                Tally.same("step(-1)", x.step(-1), -6);
                Tally.same("unrank(1)", x.unrank(1), -1);
                Tally.elements("R(" + n + ", " + k + ")", x, run(0, k));
            }
        }
    }

    private static void plainChangesOfOne() {
        x = Tally.about("families, P(1) has one object");
        Tally.same("selectPermutations(1, 1)", x.selectPermutations(1, 1), 1);
        Tally.same("count()", x.count(), 1);
        Tally.same("get(0)", x.get(0), 0);
        Tally.same("step(1)", x.step(1), -6);
        Tally.same("step(-1)", x.step(-1), -6);
        Tally.same("unrank(1)", x.unrank(1), -1);
        Tally.same("draw(4)", x.draw(4), 0);
    }

    /** The greatest number goes to the first place, waits there for one turn, goes to the last one, and waits. */
    private static void seamsOfPlainChanges() {
        Tally.about("families, plain changes: from the last place to the first one, otherwise from the first to the last");
        neighbours(0, new int[] {0, 1}, new int[] {1, 0}, 1, 2, 1);
        for (int n = 3; n <= 20; n++) {
            int[] one = run(0, n - 1);
            int[] two = Lists.inserted(run(0, n - 2), n - 3, n - 2);
            neighbours(0, run(0, n), Lists.inserted(one, n - 2, n - 1), 1, n, 1);
            neighbours(n - 1, Lists.inserted(one, 0, n - 1), Lists.inserted(two, 0, n - 1), 1, n, 1);
            neighbours(2 * n - 2, Lists.inserted(two, n - 2, n - 1), with(two, n - 1), 1, n, 1);
            if (n > 3) {
                int[] three = Lists.inserted(run(0, n - 2), n - 4, n - 2);
                neighbours(2 * n - 1, with(two, n - 1), with(three, n - 1), 1, n, 1);
            }
        }
    }

    private static void seamOfWords() {
        Tally.about("families, words in lexicographic order");
        for (int pairs = 2; pairs <= 20; pairs++) {
            // With one type, the last word that begins with 0 0, and the first one that begins with 0 1.
            int[] last = Lists.joined(0, new int[] {0, 1, 1}, repeated(2 * pairs - 4, 0, 1));
            int[] first = Lists.joined(0, new int[] {1}, nested(pairs - 1));
            long beginning = Reference.catalan(pairs).subtract(Reference.catalan(pairs - 1)).longValueExact();
            neighbours(beginning - 1, last, first, 2, pairs, 1);
        }
        for (int pairs = 1; pairs <= 20; pairs++) {
            // With two types, the last word that begins with 0, and the first one that begins with 2.
            int[] last = Lists.joined(0, repeated(2 * pairs - 2, 2, 3), new int[] {1});
            int[] first = Lists.joined(2, nested(pairs - 1), new int[] {3});
            long half = Reference.catalan(pairs).shiftLeft(pairs - 1).longValueExact();
            neighbours(half - 1, last, first, 2, pairs, 2);
        }
    }

    private static void seamOfTrees() {
        Tally.about("families, trees in lexicographic order");
        for (int nodes = 2; nodes <= 30; nodes++) {
            long leftEmpty = Reference.catalan(nodes - 1).longValueExact();
            int[] one = new int[nodes];
            for (int i = 1; i < nodes; i++) {
                one[i] = nodes - 1 - i;
            }
            int[] next = new int[nodes];
            next[0] = 1;
            neighbours(leftEmpty - 1, one, next, 3, nodes);
        }
    }

    /** The last partition whose parts are below the greatest one, and the first one with it in front. */
    private static void seamOfPartitions() {
        Tally.about("families, partitions in lexicographic order");
        for (int n = 2; n <= 60; n++) {
            for (int greatest = 2; greatest <= n; greatest++) {
                int less = greatest - 1;
                int[] last = new int[n];
                Arrays.fill(last, 0, n / less, less);
                if (n % less > 0) {
                    last[n / less] = n % less;
                }
                int[] first = new int[n];
                first[0] = greatest;
                Arrays.fill(first, 1, 1 + n - greatest, 1);
                long below = Reference.count(4, new int[] {n, less}).longValueExact();
                neighbours(below - 1, last, first, 4, n, greatest);
            }
        }
    }

    private static void seamOfArrangements() {
        Tally.about("families, arrangements in lexicographic order");
        neighbours(0, new int[] {0, 3}, new int[] {3, 0}, 5, 1, 0, 0, 1);
        neighbours(5, new int[] {0, 3, 2, 1}, new int[] {1, 0, 2, 3}, 5, 1, 1, 1, 1);
        for (int more = 1; more <= 19; more++) {
            // The only zero goes from the first place to the second one.
            int[] one = new int[more + 1];
            Arrays.fill(one, 1, more + 1, 2);
            int[] next = repeated(more + 1, 2);
            next[1] = 0;
            neighbours(0, one, next, 5, 1, 0, more, 0);
        }
    }
}
