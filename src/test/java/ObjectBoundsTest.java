import java.util.Arrays;
import java.util.List;

/** The edges of the transformation and of words, trees and descents: the sentences of promises 19 to 22. */
public final class ObjectBoundsTest {
    private static EnumerativeCoder x;

    public static void main(String[] args) {
        complementOfNoneAndAll();
        complementOfNothing();
        complementOfHalf();
        complementKeepsTheOrder();
        onlySubsetsChangeTheirParameters();
        transformationsOfOneElement();
        transformationsThatChangeNothing();
        transformationsOfTheEnds();
        conjugateAtTheGreatestPart();
        everyConjugate();
        twiceIsNone();
        twiceIsNoneFarOut();
        transformWithoutAnObject();
        transformWithSeveralErrors();
        toWordOfThePaths();
        toWordOfTooManyNodes();
        toWordOfAnotherFamily();
        toWordWithoutAnObject();
        toWordLeavesAFamilyOfWords();
        toTreeOfTheEnds();
        toTreeOfAnotherFamily();
        toTreeWithoutAnObject();
        toTreeLeavesAFamilyOfTrees();
        thereAndBack();
        noDescents();
        mostDescents();
        descentsAtTheEdges();
        descentsWithoutAnObject();
        Tally.end();
    }

    private static int[] run(int from, int length) {
        int[] row = new int[length];
        for (int i = 0; i < length; i++) {
            row[i] = from + i;
        }
        return row;
    }

    private static int[] reversed(int[] row) {
        int[] result = new int[row.length];
        for (int i = 0; i < row.length; i++) {
            result[i] = row[row.length - 1 - i];
        }
        return result;
    }

    private static void turns(int answer, int[] row, int... want) {
        Tally.fill(x, row);
        Tally.same("transform() of " + Arrays.toString(row), x.transform(), answer);
        Tally.elements("transform() of " + Arrays.toString(row), x, want);
    }

    private static void familyIs(String after, int family, int... parameters) {
        Tally.same(after + ", family()", x.family(), family);
        for (int i = 0; i < 4; i++) {
            int due = i < parameters.length ? parameters[i] : 0;
            Tally.same(after + ", parameter(" + i + ")", x.parameter(i), due);
        }
    }

    // ---- the complement

    private static void complementOfNoneAndAll() {
        for (int n = 1; n <= 60; n++) {
            for (int order = 0; order <= 2; order++) {
                x = Tally.about("transformation, the complement of a subset: k becomes n - k; of none and of all");
                x.selectSubsets(n, 0, order);
                Tally.same("transform() of none of " + n, x.transform(), 1);
                Tally.elements("transform() of none", x, run(0, n));
                familyIs("transform() of none", 0, n, n, order);
                Tally.same("length()", x.length(), n);
                Tally.same("count()", x.count(), 1);
                Tally.same("transform() of all of " + n, x.transform(), 1);
                familyIs("transform() of all", 0, n, 0, order);
                Tally.same("length()", x.length(), 0);
                Tally.same("isObject()", x.isObject(), 1);
            }
        }
    }

    private static void complementOfNothing() {
        x = Tally.about("promise 19, 0 if neither the elements nor the parameters change: subsets of n = 0");
        Tally.same("transform()", x.transform(), 0);
        familyIs("transform()", 0, 0, 0, 0);
        x.selectSubsets(0, 0, 2);
        x.put(0, 9);
        Tally.same("transform()", x.transform(), 0);
        familyIs("transform()", 0, 0, 0, 2);
        Tally.same("get(0)", x.get(0), 9);
    }

    private static void complementOfHalf() {
        x = Tally.about("promise 19, 1 if the elements change although the parameters do not");
        x.selectSubsets(2, 1, 0);
        turns(1, new int[] {0}, 1);
        turns(1, new int[] {1}, 0);
        x.selectSubsets(60, 30, 1);
        Tally.same("transform() of the lower half", x.transform(), 1);
        Tally.elements("transform() of the lower half", x, run(30, 30));
        familyIs("transform() of the lower half", 0, 60, 30, 1);
    }

    private static void complementKeepsTheOrder() {
        for (int order = 0; order <= 2; order++) {
            x = Tally.about("transformation, the complement: the order stays");
            x.selectSubsets(60, 59, order);
            x.unrank(41);
            Tally.same("transform() of 59 of 60", x.transform(), 1);
            familyIs("transform() of 59 of 60", 0, 60, 1, order);
            Tally.same("count()", x.count(), 60);
            Tally.same("rank()", x.rank(), x.get(0));
            Tally.same("transform() back", x.transform(), 1);
            Tally.same("rank()", x.rank(), 41);
        }
    }

    // ---- the other transformations

    private static void onlySubsetsChangeTheirParameters() {
        int[][] families = {{5, 1}, {4, 2}, {7}, {9, 9}, {1, 2, 0, 3}};
        for (int family = 1; family <= 5; family++) {
            x = Tally.about("promise 19, only for subsets the parameters of the present family may change");
            int[] p = families[family - 1];
            ListsTest.select(x, family, p);
            long count = x.count();
            x.unrank(count / 5);
            Tally.same("transform() of family " + family, x.transform(), 1);
            familyIs("transform()", family, p);
            Tally.same("count()", x.count(), count);
        }
    }

    private static void transformationsOfOneElement() {
        x = Tally.about("promise 19, 0 if nothing changes: the only object of the least family");
        x.selectPermutations(1, 0);
        turns(0, new int[] {0}, 0);
        x.selectPermutations(1, 1);
        turns(0, new int[] {0}, 0);
        x.selectWords(1, 1);
        turns(0, new int[] {0, 1}, 0, 1);
        x.selectWords(1, 2);
        turns(0, new int[] {2, 3}, 2, 3);
        x.selectTrees(1);
        turns(0, new int[] {0}, 0);
        x.selectPartitions(1, 1);
        turns(0, new int[] {1}, 1);
        x.selectArrangements(0, 0, 1, 0);
        turns(0, new int[] {2}, 2);
    }

    private static void transformationsThatChangeNothing() {
        x = Tally.about("promise 19, 0 if nothing changes: an object that is its own transformation");
        x.selectPermutations(20, 0);
        turns(0, run(0, 20), run(0, 20));
        turns(0, reversed(run(0, 20)), reversed(run(0, 20)));
        x.selectWords(4, 2);
        turns(0, new int[] {2, 3, 0, 2, 3, 1, 2, 3}, 2, 3, 0, 2, 3, 1, 2, 3);
        x.selectTrees(5);
        turns(0, new int[] {2, 1, 0, 0, 0}, 2, 1, 0, 0, 0);
        x.selectPartitions(8, 3);
        turns(0, new int[] {3, 3, 2, 0, 0, 0, 0, 0}, 3, 3, 2, 0, 0, 0, 0, 0);
        x.selectArrangements(4, 1, 2, 0);
        turns(0, new int[] {0, 2, 0, 1, 0, 2, 0}, 0, 2, 0, 1, 0, 2, 0);
        x.selectArrangements(0, 20, 0, 0);
        Tally.same("transform() of twenty ones", x.transform(), 0);
    }

    private static void transformationsOfTheEnds() {
        x = Tally.about("transformation, of the greatest objects");
        x.selectPermutations(20, 1);
        int[] turned = new int[20];
        int[] inverse = new int[20];
        for (int i = 0; i < 20; i++) {
            turned[i] = (i + 1) % 20;
            inverse[(i + 1) % 20] = i;
        }
        turns(1, turned, inverse);
        x.selectTrees(30);
        turns(1, new int[30], reversed(run(0, 30)));
        turns(1, reversed(run(0, 30)), new int[30]);
        x.selectPartitions(60, 60);
        int[] ones = new int[60];
        Arrays.fill(ones, 1);
        int[] whole = new int[60];
        whole[0] = 60;
        turns(1, ones, whole);
        turns(1, whole, ones);
        x.selectWords(20, 2);
        int[] word = new int[40];
        int[] mirror = new int[40];
        Arrays.fill(word, 0, 19, 2);
        Arrays.fill(word, 19, 38, 3);
        word[39] = 1;
        mirror[1] = 1;
        Arrays.fill(mirror, 2, 21, 2);
        Arrays.fill(mirror, 21, 40, 3);
        turns(1, word, mirror);
        x.selectArrangements(1, 0, 0, 19);
        int[] threes = new int[20];
        Arrays.fill(threes, 1, 20, 3);
        turns(1, threes, reversed(threes));
    }

    // ---- the conjugate

    private static void conjugateAtTheGreatestPart() {
        x = Tally.about("promise 19, NONE if the conjugate has an element above the greatest part (nothing changes then)");
        x.selectPartitions(6, 4);
        turns(1, new int[] {2, 2, 1, 1, 0, 0}, 4, 2, 0, 0, 0, 0);
        turns(1, new int[] {4, 2, 0, 0, 0, 0}, 2, 2, 1, 1, 0, 0);
        turns(-6, new int[] {2, 1, 1, 1, 1, 0}, 2, 1, 1, 1, 1, 0);
        turns(-6, new int[] {1, 1, 1, 1, 1, 1}, 1, 1, 1, 1, 1, 1);
        x.selectPartitions(60, 1);
        Tally.same("transform() of sixty ones with greatest part 1", x.transform(), -6);
        x.selectPartitions(60, 59);
        Tally.same("transform() of sixty ones with greatest part 59", x.transform(), -6);
        Tally.same("rank()", x.rank(), 0);
        x.selectPartitions(60, 60);
        Tally.same("transform() of sixty ones with greatest part 60", x.transform(), 1);
        Tally.same("rank()", x.rank(), 966466);
    }

    /** Draws the partition as rows of dots and counts the columns. */
    private static int[] columns(int[] row) {
        int[] result = new int[row.length];
        for (int part : row) {
            for (int i = 0; i < part; i++) {
                result[i]++;
            }
        }
        return result;
    }

    private static void everyConjugate() {
        Tally.about("promise 19, the conjugate of every partition of the numbers up to 12");
        for (int n = 1; n <= 12; n++) {
            for (int greatest = 1; greatest <= n; greatest++) {
                List<int[]> list = Lists.of(4, n, greatest);
                for (int[] row : list) {
                    x = new EnumerativeCoder();
                    x.selectPartitions(n, greatest);
                    int[] columns = columns(row);
                    boolean above = columns[0] > greatest;
                    int answer = above ? -6 : Arrays.equals(row, columns) ? 0 : 1;
                    turns(answer, row, above ? row : columns);
                }
            }
        }
    }

    // ---- twice

    private static void twice(String name, int[] row) {
        int family = x.family();
        int[] p = {x.parameter(0), x.parameter(1), x.parameter(2), x.parameter(3)};
        int first = x.transform();
        if (first == -6) {
            Tally.same(name + " only a conjugate is answered by NONE", family, 4);
        } else {
            Tally.same(name + " isObject() between", x.isObject(), 1);
            Tally.same(name + " answers the same", x.transform(), first);
        }
        Tally.elements(name, x, row);
        familyIs(name, family, p);
    }

    private static void twiceIsNone() {
        Tally.about("transformation, twice leads back");
        int[][] families = {{0, 8, 3, 2}, {0, 6, 6, 0}, {0, 5, 0, 1}, {0, 8, 4, 1}, {1, 5, 0}, {1, 5, 1}, {2, 3, 1},
            {2, 3, 2}, {2, 5, 1}, {3, 6}, {4, 10, 5}, {4, 10, 10}, {5, 1, 2, 1, 2}, {5, 0, 3, 0, 2}};
        for (int[] named : families) {
            int[] p = Arrays.copyOfRange(named, 1, named.length);
            for (int[] row : Lists.of(named[0], p)) {
                x = new EnumerativeCoder();
                ListsTest.select(x, named[0], p);
                Tally.fill(x, row);
                twice("family " + Arrays.toString(named) + " " + Arrays.toString(row), row);
            }
        }
    }

    private static void twiceIsNoneFarOut() {
        Tally.about("transformation, twice leads back");
        int[][] families = {{0, 60, 30, 0}, {0, 60, 1, 1}, {0, 60, 44, 2}, {1, 20, 0}, {1, 20, 1}, {2, 20, 1},
            {2, 20, 2}, {3, 30}, {4, 60, 60}, {4, 60, 15}, {5, 5, 5, 5, 5}, {5, 1, 9, 0, 10}};
        for (int[] named : families) {
            for (int seed = 0; seed < 50; seed++) {
                x = new EnumerativeCoder();
                ListsTest.select(x, named[0], Arrays.copyOfRange(named, 1, named.length));
                long rank = x.draw(seed);
                twice("family " + Arrays.toString(named) + " rank " + rank, Tally.elementsOf(x, x.length()));
                Tally.same("rank()", x.rank(), rank);
            }
        }
    }

    private static void transformWithoutAnObject() {
        int[][] families = {{7, 3, 2}, {5, 1}, {3, 2}, {6}, {9, 4}, {1, 2, 1, 2}};
        for (int family = 0; family < 6; family++) {
            x = Tally.about("promise 19, NOT_AN_OBJECT");
            ListsTest.select(x, family, families[family]);
            x.put(x.length() - 1, 1000);
            int[] row = Tally.elementsOf(x, 60);
            Tally.same("transform() of family " + family, x.transform(), -2);
            Tally.elements("transform() of family " + family, x, row);
            familyIs("transform()", family, families[family]);
        }
    }

    private static void transformWithSeveralErrors() {
        x = Tally.about("errors, NONE is returned only if no error applies; promise 19");
        x.selectPartitions(5, 2);
        Tally.same("transform() of five ones", x.transform(), -6);
        x.put(5, 1);
        Tally.same("transform() of five ones before a one", x.transform(), -6);
        x.put(4, 0);
        Tally.same("transform() of four ones", x.transform(), -2);
        Tally.fill(x, 1, 1, 1, 1, 2);
        Tally.same("transform() of five that increase", x.transform(), -2);
    }

    // ---- trees and words

    private static void toWordOfThePaths() {
        for (int nodes = 1; nodes <= 20; nodes++) {
            x = Tally.about("promise 20, the word of the empty tree is empty");
            x.selectTrees(nodes);
            Tally.same("toWord() of a path to the right, " + nodes, x.toWord(), nodes);
            Tally.same("rank() of it", x.rank(), x.count() - 1);
            x.selectTrees(nodes);
            x.unrank(x.count() - 1);
            Tally.same("toWord() of a path to the left, " + nodes, x.toWord(), nodes);
            Tally.same("rank() of it", x.rank(), 0);
        }
    }

    private static void toWordOfTooManyNodes() {
        for (int nodes = 19; nodes <= 30; nodes++) {
            x = Tally.about("promise 20, trees with at most 20 nodes");
            x.selectTrees(nodes);
            x.unrank(1);
            int[] row = Tally.elementsOf(x, 60);
            Tally.same("toWord() of " + nodes, x.toWord(), nodes <= 20 ? nodes : -3);
            if (nodes > 20) {
                Tally.elements("toWord() of " + nodes, x, row);
                familyIs("toWord() of " + nodes, 3, nodes);
                x.put(0, -1);
                Tally.same("toWord() of " + nodes + ", WRONG_FAMILY before NOT_AN_OBJECT", x.toWord(), -3);
            }
        }
    }

    private static void toWordOfAnotherFamily() {
        int[][] families = {{3, 3, 0}, {3, 0}, {3, 1}, {}, {3, 3}, {3, 0, 0, 0}};
        for (int family = 0; family < 6; family++) {
            if (family != 3) {
                x = Tally.about("promise 20, WRONG_FAMILY if the present family is not one of trees");
                ListsTest.select(x, family, families[family]);
                // Read as trees, these would be objects.
                Tally.fill(x, 0, 0, 0);
                Tally.same("toWord() of family " + family, x.toWord(), -3);
                x.put(0, 1000);
                Tally.same("toWord() of family " + family + ", WRONG_FAMILY before NOT_AN_OBJECT", x.toWord(), -3);
                familyIs("toWord()", family, families[family]);
                Tally.elements("toWord()", x, 1000, 0, 0);
            }
        }
    }

    private static void toWordWithoutAnObject() {
        x = Tally.about("promise 20, NOT_AN_OBJECT");
        for (int nodes : new int[] {1, 2, 20}) {
            x.selectTrees(nodes);
            x.put(nodes - 1, 1);
            Tally.same("toWord() of " + nodes, x.toWord(), -2);
            familyIs("toWord()", 3, nodes);
            Tally.same("the last element", x.get(nodes - 1), 1);
        }
    }

    private static void toWordLeavesAFamilyOfWords() {
        x = Tally.about("promise 20, the present family becomes that of the words with as many pairs and one type");
        Tally.same("selectWords(2, 2)", x.selectWords(2, 2), 4);
        x.selectTrees(20);
        Tally.same("toWord()", x.toWord(), 20);
        familyIs("toWord()", 2, 20, 1);
        Tally.same("length()", x.length(), 40);
        Tally.same("count()", x.count(), 6564120420L);
        Tally.same("isObject()", x.isObject(), 1);
        Tally.same("toWord() of a word", x.toWord(), -3);
        Tally.same("toTree()", x.toTree(), 20);
    }

    private static void toTreeOfTheEnds() {
        for (int pairs = 1; pairs <= 20; pairs++) {
            x = Tally.about("promise 21, replaces a word by the tree of which it is the word");
            x.selectWords(pairs, 1);
            Tally.same("toTree() of the first word, " + pairs, x.toTree(), pairs);
            Tally.elements("toTree() of the first word", x, reversed(run(0, pairs)));
            x.selectWords(pairs, 1);
            x.unrank(x.count() - 1);
            Tally.same("toTree() of the last word, " + pairs, x.toTree(), pairs);
            Tally.elements("toTree() of the last word", x, new int[pairs]);
        }
    }

    private static void toTreeOfAnotherFamily() {
        int[][] families = {{4, 4, 0}, {4, 0}, {2, 2}, {4}, {4, 4}, {2, 2, 0, 0}};
        for (int family = 0; family < 6; family++) {
            x = Tally.about("promise 21, WRONG_FAMILY if the present family is not one of words with one type");
            ListsTest.select(x, family, families[family]);
            // Read as a word of one type, this would be an object.
            Tally.fill(x, 0, 0, 1, 1);
            Tally.same("toTree() of family " + family, x.toTree(), -3);
            x.put(0, 1000);
            Tally.same("toTree() of family " + family + ", WRONG_FAMILY before NOT_AN_OBJECT", x.toTree(), -3);
            familyIs("toTree()", family, families[family]);
            Tally.elements("toTree()", x, 1000, 0, 1, 1);
        }
    }

    private static void toTreeWithoutAnObject() {
        x = Tally.about("promise 21, NOT_AN_OBJECT");
        for (int pairs : new int[] {1, 2, 20}) {
            x.selectWords(pairs, 1);
            x.put(2 * pairs - 1, 0);
            Tally.same("toTree() with a last bracket that opens, " + pairs, x.toTree(), -2);
            x.put(2 * pairs - 1, 3);
            Tally.same("toTree() with a bracket of the second type, " + pairs, x.toTree(), -2);
            x.put(2 * pairs - 1, 1);
            x.put(0, 1);
            Tally.same("toTree() with a first bracket that closes, " + pairs, x.toTree(), -2);
            familyIs("toTree()", 2, pairs, 1);
            Tally.same("get(0)", x.get(0), 1);
        }
    }

    private static void toTreeLeavesAFamilyOfTrees() {
        x = Tally.about("promise 21, the present family becomes that of the trees with as many nodes");
        x.selectWords(20, 1);
        Tally.same("toTree()", x.toTree(), 20);
        familyIs("toTree()", 3, 20);
        Tally.same("length()", x.length(), 20);
        Tally.same("count()", x.count(), 6564120420L);
        Tally.same("isObject()", x.isObject(), 1);
        Tally.same("toTree() of a tree", x.toTree(), -3);
        Tally.same("toWord()", x.toWord(), 20);
    }

    private static void thereAndBack() {
        Tally.about("promises 20 and 21, toTree() undoes toWord()");
        for (int nodes = 1; nodes <= 7; nodes++) {
            for (int[] row : Lists.of(3, nodes)) {
                x = new EnumerativeCoder();
                x.selectTrees(nodes);
                Tally.fill(x, row);
                x.toWord();
                Tally.holds("the word is balanced", Lists.isBalanced(Tally.elementsOf(x, 2 * nodes)));
                x.toTree();
                Tally.elements("toTree()", x, row);
            }
        }
        for (int seed = 0; seed < 200; seed++) {
            x = new EnumerativeCoder();
            x.selectTrees(20);
            long rank = x.draw(seed);
            x.toWord();
            Tally.same("isObject() of the word", x.isObject(), 1);
            x.toTree();
            Tally.same("rank()", x.rank(), rank);
        }
    }

    // ---- descents

    private static void noDescents() {
        x = Tally.about("promise 22, no place at which an element is less than the one before it");
        Tally.same("descents() of length 0", x.descents(), 0);
        x.selectSubsets(60, 1, 0);
        Tally.same("descents() of length 1", x.descents(), 0);
        x.put(1, -1000);
        Tally.same("descents() of length 1 before a lesser number", x.descents(), 0);
        x.selectSubsets(60, 60, 2);
        Tally.same("descents() of length 60", x.descents(), 0);
        x.selectPartitions(60, 7);
        Tally.same("descents() of equal elements", x.descents(), 0);
        x.selectArrangements(5, 5, 5, 5);
        Tally.same("descents() of the first arrangement", x.descents(), 0);
    }

    private static void mostDescents() {
        x = Tally.about("promise 22, every place but the first is a descent");
        x.selectPermutations(20, 0);
        x.unrank(x.count() - 1);
        Tally.same("descents() of the last permutation", x.descents(), 19);
        x.selectTrees(30);
        x.unrank(x.count() - 1);
        Tally.same("descents() of the last tree", x.descents(), 29);
    }

    private static void descentsAtTheEdges() {
        x = Tally.about("promise 22, the places at which an element is less than the one before it");
        x.selectPermutations(4, 1);
        Tally.fill(x, 1, 0, 2, 3);
        Tally.same("descents() with one at the first two places", x.descents(), 1);
        Tally.fill(x, 0, 1, 3, 2);
        Tally.same("descents() with one at the last two places", x.descents(), 1);
        x.put(4, -1000);
        Tally.same("descents() with a lesser number behind the object", x.descents(), 1);
        x.selectWords(2, 2);
        Tally.fill(x, 2, 0, 1, 3);
        Tally.same("descents() of a word", x.descents(), 1);
        x.selectPartitions(60, 60);
        x.unrank(966466);
        Tally.same("descents() of 60 and no more", x.descents(), 1);
        x.selectArrangements(2, 1, 0, 1);
        Tally.fill(x, 3, 1, 0, 0);
        Tally.same("descents() with equal elements", x.descents(), 2);
    }

    private static void descentsWithoutAnObject() {
        int[][] families = {{7, 3, 2}, {5, 1}, {3, 2}, {6}, {9, 4}, {1, 2, 1, 2}};
        for (int family = 0; family < 6; family++) {
            x = Tally.about("promise 22, NOT_AN_OBJECT");
            ListsTest.select(x, family, families[family]);
            x.put(x.length() - 1, -1);
            Tally.same("descents() of family " + family, x.descents(), -2);
        }
    }
}
