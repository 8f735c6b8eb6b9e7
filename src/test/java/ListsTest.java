import java.util.Arrays;
import java.util.List;

/** Goes through the whole lists of all small families. */
public final class ListsTest {
    public static void main(String[] args) {
        for (int n = 0; n <= 9; n++) {
            for (int k = 0; k <= n; k++) {
                for (int order = 0; order <= 2; order++) {
                    compare(0, n, k, order, 0);
                }
            }
        }
        for (int n = 1; n <= 7; n++) {
            compare(1, n, 0, 0, 0);
            compare(1, n, 1, 0, 0);
        }
        for (int pairs = 1; pairs <= 4; pairs++) {
            compare(2, pairs, 1, 0, 0);
            compare(2, pairs, 2, 0, 0);
        }
        compare(2, 6, 1, 0, 0);
        for (int nodes = 1; nodes <= 8; nodes++) {
            compare(3, nodes, 0, 0, 0);
        }
        for (int n = 1; n <= 16; n++) {
            for (int greatest = 1; greatest <= n; greatest++) {
                compare(4, n, greatest, 0, 0);
            }
        }
        for (int often = 1; often < 256; often++) {
            int[] p = {often & 3, often >> 2 & 3, often >> 4 & 3, often >> 6 & 3};
            if (p[0] + p[1] + p[2] + p[3] <= 7) {
                compare(5, p);
            }
        }
        Tally.end();
    }

    static int select(EnumerativeCoder coder, int family, int... p) {
        switch (family) {
            case 0: return coder.selectSubsets(p[0], p[1], p[2]);
            case 1: return coder.selectPermutations(p[0], p[1]);
            case 2: return coder.selectWords(p[0], p[1]);
            case 3: return coder.selectTrees(p[0]);
            case 4: return coder.selectPartitions(p[0], p[1]);
            default: return coder.selectArrangements(p[0], p[1], p[2], p[3]);
        }
    }

    private static void compare(int family, int... p) {
        List<int[]> list = Lists.of(family, p);
        String name = "family " + family + " " + Arrays.toString(p);
        EnumerativeCoder coder = new EnumerativeCoder();
        int width = list.get(0).length;
        Tally.same(name + " select", select(coder, family, p), width);
        Tally.same(name + " count()", coder.count(), list.size());
        Tally.elements(name + " first object", coder, list.get(0));
        for (int i = 0; i < list.size(); i++) {
            // A new object for each place keeps far below 512 calls.
            coder = new EnumerativeCoder();
            select(coder, family, p);
            String place = name + " place " + i;
            Tally.same(place + " unrank", coder.unrank(i), i == 0 ? 0 : 1);
            Tally.elements(place, coder, list.get(i));
            Tally.same(place + " isObject()", coder.isObject(), 1);
            Tally.same(place + " rank()", coder.rank(), i);
            Tally.same(place + " step(1)", coder.step(1), i + 1 < list.size() ? 1 : -6);
            Tally.elements(place + " step(1)", coder, list.get(Math.min(i + 1, list.size() - 1)));
            Tally.fill(coder, list.get(i));
            Tally.same(place + " step(-1)", coder.step(-1), i > 0 ? 1 : -6);
            Tally.elements(place + " step(-1)", coder, list.get(Math.max(i - 1, 0)));
        }
        everySequence(name, family, p, list);
    }

    /** Tells objects from other sequences, for all sequences of small numbers. */
    private static void everySequence(String name, int family, int[] p, List<int[]> list) {
        int width = list.get(0).length;
        int letters = 6;
        if (width < 1 || width > 5) {
            return;
        }
        boolean[] listed = new boolean[(int) Math.pow(letters, width)];
        for (int[] row : list) {
            int number = 0;
            for (int element : row) {
                number = element < letters ? number * letters + element : -1000000;
            }
            if (number >= 0) {
                listed[number] = true;
            }
        }
        EnumerativeCoder coder = new EnumerativeCoder();
        for (int number = 0; number < listed.length; number++) {
            if (number % 60 == 0) {
                coder = new EnumerativeCoder();
                select(coder, family, p);
            }
            int rest = number;
            for (int i = width - 1; i >= 0; i--) {
                coder.put(i, rest % letters);
                rest /= letters;
            }
            Tally.same(name + " sequence " + number + " isObject()", coder.isObject(), listed[number] ? 1 : 0);
        }
    }
}
