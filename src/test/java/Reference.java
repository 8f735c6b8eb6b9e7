import java.math.BigInteger;
import java.util.ArrayList;
import java.util.Arrays;
import java.util.HashMap;
import java.util.List;
import java.util.Map;

/**
 * Ranks for families of any size, in other ways than the class goes: lexicographic orders by counting the
 * objects with a beginning, the other orders by the document's recursions, all in BigInteger.
 */
final class Reference {
    private static final Map<String, BigInteger> KNOWN = new HashMap<>();

    private Reference() {
    }

    static int width(int family, int[] p) {
        switch (family) {
            case 0: return p[1];
            case 2: return 2 * p[0];
            case 5: return p[0] + p[1] + p[2] + p[3];
            default: return p[0];
        }
    }

    static BigInteger count(int family, int[] p) {
        return beginningWith(family, p, new int[0]);
    }

    static boolean isObject(int family, int[] p, int[] row) {
        switch (family) {
            case 0: return Arrays.equals(row, Arrays.stream(row).filter(e -> e >= 0 && e < p[0]).sorted().distinct().toArray());
            case 1: return Arrays.equals(upTo(p[0]), Arrays.stream(row).sorted().toArray());
            case 2: return Arrays.stream(row).allMatch(e -> e >= 0 && e < 2 * p[1]) && Lists.isBalanced(row);
            case 3: return isTree(row);
            case 4: return isPartition(p, row);
            default: return isArrangement(p, row);
        }
    }

    private static int[] upTo(int n) {
        int[] row = new int[n];
        for (int i = 0; i < n; i++) {
            row[i] = i;
        }
        return row;
    }

    private static boolean isTree(int[] row) {
        if (row.length == 0) {
            return true;
        }
        return row[0] >= 0 && row[0] < row.length && isTree(leftOf(row)) && isTree(rightOf(row));
    }

    static int[] leftOf(int[] tree) {
        return Arrays.copyOfRange(tree, 1, 1 + tree[0]);
    }

    static int[] rightOf(int[] tree) {
        return Arrays.copyOfRange(tree, 1 + tree[0], tree.length);
    }

    private static boolean isPartition(int[] p, int[] row) {
        for (int i = 0; i < row.length; i++) {
            if (row[i] < 0 || row[i] > p[1] || i > 0 && row[i] > row[i - 1]) {
                return false;
            }
        }
        return Arrays.stream(row).sum() == p[0];
    }

    private static boolean isArrangement(int[] p, int[] row) {
        for (int letter = 0; letter < 4; letter++) {
            int sought = letter;
            if (Arrays.stream(row).filter(e -> e == sought).count() != p[letter]) {
                return false;
            }
        }
        return true;
    }

    static BigInteger rank(int family, int[] p, int[] row) {
        if (family == 0 && p[2] == 1) {
            return colexicographicRank(row);
        }
        if (family == 0 && p[2] == 2) {
            return revolvingRank(p[0], row);
        }
        if (family == 1 && p[1] == 1) {
            return plainRank(row);
        }
        BigInteger rank = BigInteger.ZERO;
        for (int i = 0; i < row.length; i++) {
            int[] beginning = Arrays.copyOf(row, i + 1);
            for (int less = 0; less < row[i]; less++) {
                beginning[i] = less;
                rank = rank.add(beginningWith(family, p, beginning));
            }
        }
        return rank;
    }

    static int[] unrank(int family, int[] p, BigInteger rank) {
        if (family == 0 && p[2] == 1) {
            return colexicographic(p[1], rank);
        }
        if (family == 0 && p[2] == 2) {
            return revolving(p[0], p[1], rank);
        }
        if (family == 1 && p[1] == 1) {
            return plain(p[0], rank);
        }
        int[] row = new int[0];
        BigInteger rest = rank;
        for (int i = 0; i < width(family, p); i++) {
            row = Arrays.copyOf(row, i + 1);
            BigInteger ways = beginningWith(family, p, row);
            while (rest.compareTo(ways) >= 0) {
                rest = rest.subtract(ways);
                row[i]++;
                ways = beginningWith(family, p, row);
            }
        }
        return row;
    }

    // ---- how many objects begin with a row

    private static BigInteger beginningWith(int family, int[] p, int[] row) {
        switch (family) {
            case 0: return subsetsWith(p, row);
            case 1: return Arrays.stream(row).distinct().count() < row.length ? BigInteger.ZERO : factorial(p[0] - row.length);
            case 2: return wordsWith(p, row);
            case 3: return treesWith(p[0], row);
            case 4: return partitionsWith(p, row);
            default: return arrangementsWith(p, row);
        }
    }

    static BigInteger factorial(int n) {
        return n <= 1 ? BigInteger.ONE : BigInteger.valueOf(n).multiply(factorial(n - 1));
    }

    static BigInteger choose(int n, int k) {
        return k < 0 || k > n ? BigInteger.ZERO : factorial(n).divide(factorial(k)).divide(factorial(n - k));
    }

    private static BigInteger subsetsWith(int[] p, int[] row) {
        int last = -1;
        for (int element : row) {
            if (element <= last) {
                return BigInteger.ZERO;
            }
            last = element;
        }
        return choose(p[0] - 1 - last, p[1] - row.length);
    }

    private static BigInteger wordsWith(int[] p, int[] row) {
        List<Integer> open = new ArrayList<>();
        for (int letter : row) {
            if (letter >= 2 * p[1]) {
                return BigInteger.ZERO;
            }
            if (letter % 2 == 0) {
                open.add(letter);
            } else if (open.isEmpty() || open.remove(open.size() - 1) != letter - 1) {
                return BigInteger.ZERO;
            }
        }
        return wordEnds(2 * p[0] - row.length, open.size(), p[1]);
    }

    private static BigInteger wordEnds(int letters, int open, int types) {
        if (open < 0 || open > letters) {
            return BigInteger.ZERO;
        }
        if (letters == 0) {
            return BigInteger.ONE;
        }
        String key = "w" + letters + " " + open + " " + types;
        if (!KNOWN.containsKey(key)) {
            BigInteger opening = wordEnds(letters - 1, open + 1, types).multiply(BigInteger.valueOf(types));
            KNOWN.put(key, opening.add(wordEnds(letters - 1, open - 1, types)));
        }
        return KNOWN.get(key);
    }

    static BigInteger catalan(int n) {
        return factorial(2 * n).divide(factorial(n)).divide(factorial(n + 1));
    }

    /** The subtrees that are still to come are free: each gives a Catalan number. */
    private static BigInteger treesWith(int nodes, int[] row) {
        List<Integer> toCome = new ArrayList<>();
        toCome.add(nodes);
        for (int left : row) {
            int size = toCome.remove(toCome.size() - 1);
            while (size == 0 && !toCome.isEmpty()) {
                size = toCome.remove(toCome.size() - 1);
            }
            if (left > size - 1) {
                return BigInteger.ZERO;
            }
            toCome.add(size - 1 - left);
            toCome.add(left);
        }
        BigInteger ways = BigInteger.ONE;
        for (int size : toCome) {
            ways = ways.multiply(catalan(size));
        }
        return ways;
    }

    private static BigInteger partitionsWith(int[] p, int[] row) {
        int rest = p[0];
        int last = p[1];
        for (int part : row) {
            if (part > last) {
                return BigInteger.ZERO;
            }
            rest -= part;
            last = part;
        }
        return partitionEnds(rest, last, p[0] - row.length);
    }

    private static BigInteger partitionEnds(int rest, int last, int places) {
        if (rest < 0 || places == 0 && rest > 0) {
            return BigInteger.ZERO;
        }
        if (places == 0) {
            return BigInteger.ONE;
        }
        String key = "p" + rest + " " + last + " " + places;
        if (!KNOWN.containsKey(key)) {
            BigInteger ways = BigInteger.ZERO;
            for (int part = 0; part <= Math.min(last, rest); part++) {
                ways = ways.add(partitionEnds(rest - part, part, places - 1));
            }
            KNOWN.put(key, ways);
        }
        return KNOWN.get(key);
    }

    private static BigInteger arrangementsWith(int[] p, int[] row) {
        int[] left = Arrays.copyOf(p, 4);
        for (int letter : row) {
            left[letter]--;
        }
        BigInteger ways = factorial(Arrays.stream(left).sum());
        for (int letter = 0; letter < 4; letter++) {
            if (left[letter] < 0) {
                return BigInteger.ZERO;
            }
            ways = ways.divide(factorial(left[letter]));
        }
        return ways;
    }

    // ---- the other orders

    private static BigInteger colexicographicRank(int[] row) {
        BigInteger rank = BigInteger.ZERO;
        for (int i = row.length - 1; i >= 0; i--) {
            for (int less = i; less < row[i]; less++) {
                rank = rank.add(choose(less, i));
            }
        }
        return rank;
    }

    private static int[] colexicographic(int k, BigInteger rank) {
        int[] row = new int[k];
        BigInteger rest = rank;
        for (int i = k - 1; i >= 0; i--) {
            int element = i;
            while (rest.compareTo(choose(element, i)) >= 0) {
                rest = rest.subtract(choose(element, i));
                element++;
            }
            row[i] = element;
        }
        return row;
    }

    private static BigInteger revolvingRank(int n, int[] row) {
        int k = row.length;
        if (k == 0 || k == n) {
            return BigInteger.ZERO;
        }
        if (row[k - 1] != n - 1) {
            return revolvingRank(n - 1, row);
        }
        BigInteger shorter = revolvingRank(n - 1, Arrays.copyOf(row, k - 1));
        return choose(n - 1, k).add(choose(n - 1, k - 1)).subtract(BigInteger.ONE).subtract(shorter);
    }

    private static int[] revolving(int n, int k, BigInteger rank) {
        if (k == 0 || k == n) {
            return upTo(k);
        }
        BigInteger without = choose(n - 1, k);
        if (rank.compareTo(without) < 0) {
            return revolving(n - 1, k, rank);
        }
        BigInteger turned = choose(n - 1, k - 1).subtract(BigInteger.ONE).subtract(rank.subtract(without));
        return Lists.inserted(revolving(n - 1, k - 1, turned), k - 1, n - 1);
    }

    private static BigInteger plainRank(int[] row) {
        int n = row.length;
        if (n == 1) {
            return BigInteger.ZERO;
        }
        int place = 0;
        while (row[place] != n - 1) {
            place++;
        }
        BigInteger shorter = plainRank(Arrays.stream(row).filter(e -> e != n - 1).toArray());
        int turn = shorter.testBit(0) ? place : n - 1 - place;
        return shorter.multiply(BigInteger.valueOf(n)).add(BigInteger.valueOf(turn));
    }

    private static int[] plain(int n, BigInteger rank) {
        if (n == 1) {
            return new int[] {0};
        }
        BigInteger[] parts = rank.divideAndRemainder(BigInteger.valueOf(n));
        int turn = parts[1].intValue();
        return Lists.inserted(plain(n - 1, parts[0]), parts[0].testBit(0) ? turn : n - 1 - turn, n - 1);
    }
}
