import java.util.ArrayList;
import java.util.Arrays;
import java.util.List;

/** The lists of objects of small families, made literally from the document's definitions. */
final class Lists {
    private Lists() {
    }

    static List<int[]> of(int family, int... p) {
        switch (family) {
            case 0: return subsets(p[0], p[1], p[2]);
            case 1: return p[1] == 1 ? plainChanges(p[0]) : sorted(permutations(p[0]));
            case 2: return words(p[0], p[1]);
            case 3: return sorted(trees(p[0]));
            case 4: return partitions(p[0], p[1]);
            default: return arrangements(p);
        }
    }

    private static List<int[]> sorted(List<int[]> list) {
        list.sort(Arrays::compare);
        return list;
    }

    private static List<int[]> subsets(int n, int k, int order) {
        if (order == 2) {
            return revolvingDoor(n, k);
        }
        List<int[]> list = new ArrayList<>();
        for (int mask = 0; mask < 1 << n; mask++) {
            if (Integer.bitCount(mask) == k) {
                list.add(elementsOf(mask, n));
            }
        }
        if (order == 1) {
            list.sort(Lists::compareFromTheEnd);
            return list;
        }
        return sorted(list);
    }

    private static int[] elementsOf(int mask, int n) {
        int[] elements = new int[Integer.bitCount(mask)];
        int next = 0;
        for (int i = 0; i < n; i++) {
            if ((mask >> i & 1) == 1) {
                elements[next++] = i;
            }
        }
        return elements;
    }

    private static int compareFromTheEnd(int[] one, int[] other) {
        for (int i = one.length - 1; i >= 0; i--) {
            if (one[i] != other[i]) {
                return Integer.compare(one[i], other[i]);
            }
        }
        return 0;
    }

    private static List<int[]> revolvingDoor(int n, int k) {
        List<int[]> list = new ArrayList<>();
        if (k == 0 || k == n) {
            list.add(elementsOf((1 << k) - 1, n));
            return list;
        }
        list.addAll(revolvingDoor(n - 1, k));
        List<int[]> shorter = revolvingDoor(n - 1, k - 1);
        for (int i = shorter.size() - 1; i >= 0; i--) {
            list.add(inserted(shorter.get(i), k - 1, n - 1));
        }
        return list;
    }

    static int[] inserted(int[] row, int place, int value) {
        int[] longer = new int[row.length + 1];
        System.arraycopy(row, 0, longer, 0, place);
        longer[place] = value;
        System.arraycopy(row, place, longer, place + 1, row.length - place);
        return longer;
    }

    private static List<int[]> permutations(int n) {
        List<int[]> list = new ArrayList<>();
        if (n == 0) {
            list.add(new int[0]);
            return list;
        }
        for (int[] shorter : permutations(n - 1)) {
            for (int place = 0; place < n; place++) {
                list.add(inserted(shorter, place, n - 1));
            }
        }
        return list;
    }

    private static List<int[]> plainChanges(int n) {
        List<int[]> list = new ArrayList<>();
        if (n == 1) {
            list.add(new int[] {0});
            return list;
        }
        List<int[]> shorter = plainChanges(n - 1);
        for (int rank = 0; rank < shorter.size(); rank++) {
            for (int turn = 0; turn < n; turn++) {
                list.add(inserted(shorter.get(rank), rank % 2 == 0 ? n - 1 - turn : turn, n - 1));
            }
        }
        return list;
    }

    /** All sequences over so many letters, in lexicographic order. */
    private static List<int[]> sequences(int length, int letters) {
        List<int[]> list = new ArrayList<>();
        list.add(new int[0]);
        for (int i = 0; i < length; i++) {
            List<int[]> longer = new ArrayList<>();
            for (int[] row : list) {
                for (int letter = 0; letter < letters; letter++) {
                    longer.add(inserted(row, i, letter));
                }
            }
            list = longer;
        }
        return list;
    }

    private static List<int[]> words(int pairs, int types) {
        List<int[]> list = new ArrayList<>();
        for (int[] row : sequences(2 * pairs, 2 * types)) {
            if (isBalanced(row)) {
                list.add(row);
            }
        }
        return list;
    }

    /** A balanced word vanishes when neighbours that belong together are struck out. */
    static boolean isBalanced(int[] row) {
        StringBuilder text = new StringBuilder();
        for (int letter : row) {
            text.append((char) ('0' + letter));
        }
        String word = text.toString();
        for (int i = 0; i < row.length; i++) {
            word = word.replace("01", "").replace("23", "");
        }
        return word.isEmpty();
    }

    private static List<int[]> trees(int nodes) {
        List<int[]> list = new ArrayList<>();
        if (nodes == 0) {
            list.add(new int[0]);
            return list;
        }
        for (int left = 0; left < nodes; left++) {
            for (int[] one : trees(left)) {
                for (int[] other : trees(nodes - 1 - left)) {
                    list.add(joined(left, one, other));
                }
            }
        }
        return list;
    }

    static int[] joined(int first, int[] one, int[] other) {
        int[] row = new int[1 + one.length + other.length];
        row[0] = first;
        System.arraycopy(one, 0, row, 1, one.length);
        System.arraycopy(other, 0, row, 1 + one.length, other.length);
        return row;
    }

    private static List<int[]> partitions(int n, int greatest) {
        List<int[]> list = new ArrayList<>();
        addPartitions(new int[n], 0, n, greatest, list);
        return list;
    }

    private static void addPartitions(int[] row, int place, int rest, int greatest, List<int[]> list) {
        if (place == row.length) {
            if (rest == 0) {
                list.add(row.clone());
            }
            return;
        }
        for (int part = 0; part <= Math.min(greatest, rest); part++) {
            row[place] = part;
            addPartitions(row, place + 1, rest - part, part, list);
        }
    }

    private static List<int[]> arrangements(int[] often) {
        List<int[]> list = new ArrayList<>();
        for (int[] row : sequences(often[0] + often[1] + often[2] + often[3], 4)) {
            int[] found = new int[4];
            for (int letter : row) {
                found[letter]++;
            }
            if (Arrays.equals(found, often)) {
                list.add(row);
            }
        }
        return list;
    }
}
