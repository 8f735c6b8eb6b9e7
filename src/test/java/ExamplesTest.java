/** The four examples of the document's description, each with a new object. */
public final class ExamplesTest {
    public static void main(String[] args) {
        subsets();
        permutations();
        treesWordsAndPartitions();
        archive();
        Tally.end();
    }

    private static void subsets() {
        EnumerativeCoder x = new EnumerativeCoder();
        Tally.same("1 selectSubsets(5, 3, 1)", x.selectSubsets(5, 3, 1), 3);
        Tally.same("1 count()", x.count(), 10);
        Tally.same("1 get(0)", x.get(0), 0);
        Tally.same("1 get(1)", x.get(1), 1);
        Tally.same("1 get(2)", x.get(2), 2);
        Tally.same("1 unrank(7)", x.unrank(7), 1);
        Tally.same("1 get(0)", x.get(0), 0);
        Tally.same("1 get(1)", x.get(1), 3);
        Tally.same("1 get(2)", x.get(2), 4);
        Tally.same("1 rank()", x.rank(), 7);
        Tally.same("1 transform()", x.transform(), 1);
        Tally.same("1 length()", x.length(), 2);
        Tally.same("1 get(0)", x.get(0), 1);
        Tally.same("1 get(1)", x.get(1), 2);
        Tally.same("1 rank()", x.rank(), 2);
        Tally.same("1 step(-5)", x.step(-5), -6);
    }

    private static void permutations() {
        EnumerativeCoder x = new EnumerativeCoder();
        Tally.same("2 selectPermutations(4, 1)", x.selectPermutations(4, 1), 4);
        Tally.same("2 unrank(11)", x.unrank(11), 1);
        Tally.same("2 get(0)", x.get(0), 3);
        Tally.same("2 get(1)", x.get(1), 2);
        Tally.same("2 get(2)", x.get(2), 0);
        Tally.same("2 get(3)", x.get(3), 1);
        Tally.same("2 put(0, 3)", x.put(0, 3), 3);
        Tally.same("2 isObject()", x.isObject(), 1);
        Tally.same("2 rank()", x.rank(), 11);
        Tally.same("2 selectPermutations(3, 0)", x.selectPermutations(3, 0), 3);
        Tally.same("2 unrank(4)", x.unrank(4), 1);
        Tally.same("2 get(0)", x.get(0), 2);
        Tally.same("2 transform()", x.transform(), 1);
        Tally.same("2 rank()", x.rank(), 3);
        Tally.same("2 step(1)", x.step(1), 1);
        Tally.same("2 step(1)", x.step(1), 1);
    }

    private static void treesWordsAndPartitions() {
        EnumerativeCoder x = new EnumerativeCoder();
        Tally.same("3 selectTrees(3)", x.selectTrees(3), 3);
        Tally.same("3 count()", x.count(), 5);
        Tally.same("3 unrank(2)", x.unrank(2), 1);
        Tally.same("3 get(0)", x.get(0), 1);
        Tally.same("3 get(1)", x.get(1), 0);
        Tally.same("3 get(2)", x.get(2), 0);
        Tally.same("3 toWord()", x.toWord(), 3);
        Tally.same("3 get(0)", x.get(0), 0);
        Tally.same("3 get(1)", x.get(1), 0);
        Tally.same("3 get(2)", x.get(2), 1);
        Tally.same("3 rank()", x.rank(), 2);
        Tally.same("3 store()", x.store(), 0);
        Tally.same("3 selectPartitions(5, 3)", x.selectPartitions(5, 3), 5);
        Tally.same("3 count()", x.count(), 5);
        Tally.same("3 unrank(2)", x.unrank(2), 1);
        Tally.same("3 store()", x.store(), 1);
    }

    private static void archive() {
        EnumerativeCoder x = new EnumerativeCoder();
        Tally.same("4 selectArrangements(1, 2, 0, 1)", x.selectArrangements(1, 2, 0, 1), 4);
        Tally.same("4 count()", x.count(), 12);
        Tally.same("4 unrank(5)", x.unrank(5), 1);
        Tally.same("4 get(0)", x.get(0), 1);
        Tally.same("4 get(1)", x.get(1), 1);
        Tally.same("4 get(2)", x.get(2), 0);
        Tally.same("4 get(3)", x.get(3), 3);
        Tally.same("4 descents()", x.descents(), 1);
        Tally.same("4 store()", x.store(), 0);
        Tally.same("4 selectWords(2, 2)", x.selectWords(2, 2), 4);
        Tally.same("4 draw(7)", x.draw(7), 2);
        Tally.same("4 store()", x.store(), 1);
        Tally.same("4 total()", x.total(), 96);
        Tally.same("4 code()", x.code(), 42);
        Tally.same("4 decode(0)", x.decode(0), 2);
        Tally.same("4 fetch(0)", x.fetch(0), 5);
    }
}
