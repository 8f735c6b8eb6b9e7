import java.math.BigInteger;
import java.util.ArrayList;
import java.util.Arrays;
import java.util.Comparator;
import java.util.List;

/** A second coder, written from the document as simply as may be, to compare answers with. */
final class Model {
    /** How many parameters the families have. */
    private static final int[] PARAMETERS = {3, 2, 2, 1, 2, 4};
    private static final BigInteger MOST = BigInteger.ONE.shiftLeft(62);

    private record Entry(int family, int[] p, BigInteger rank) {
        private BigInteger size() {
            return Reference.count(family, p);
        }

        private long[] key() {
            return new long[] {family, p[0], p[1], p[2], p[3], rank.longValueExact()};
        }
    }

    private int family = 0;
    private int[] p = new int[4];
    private final int[] buffer = new int[60];
    private List<Entry> archive = new ArrayList<>();

    int select(int newFamily, int... parameters) {
        if (!isFamily(newFamily, parameters)) {
            return -1;
        }
        family = newFamily;
        p = Arrays.copyOf(Arrays.copyOf(parameters, PARAMETERS[newFamily]), 4);
        lay(BigInteger.ZERO);
        return length();
    }

    private static boolean isFamily(int family, int[] q) {
        switch (family) {
            case 0: return in(q[0], 0, 60) && in(q[1], 0, q[0]) && in(q[2], 0, 2);
            case 1: return in(q[0], 1, 20) && in(q[1], 0, 1);
            case 2: return in(q[0], 1, 20) && in(q[1], 1, 2);
            case 3: return in(q[0], 1, 30);
            case 4: return in(q[0], 1, 60) && in(q[1], 1, q[0]);
            default: return Arrays.stream(q).allMatch(e -> in(e, 0, 20)) && in(Arrays.stream(q).sum(), 1, 20);
        }
    }

    private static boolean in(long value, long least, long greatest) {
        return value >= least && value <= greatest;
    }

    private int[] row() {
        return Arrays.copyOf(buffer, length());
    }

    private int write(int[] row) {
        boolean same = Arrays.equals(row, Arrays.copyOf(buffer, row.length));
        System.arraycopy(row, 0, buffer, 0, row.length);
        return same ? 0 : 1;
    }

    private int lay(BigInteger rank) {
        return write(Reference.unrank(family, p, rank));
    }

    int family() {
        return family;
    }

    int parameter(int i) {
        return in(i, 0, 3) ? p[i] : -1;
    }

    int length() {
        return Reference.width(family, p);
    }

    long count() {
        return Reference.count(family, p).longValueExact();
    }

    int put(int i, int value) {
        if (!in(i, 0, 59) || !in(value, -1000, 1000)) {
            return -1001;
        }
        int before = buffer[i];
        buffer[i] = value;
        return before;
    }

    int get(int i) {
        return in(i, 0, 59) ? buffer[i] : -1001;
    }

    int isObject() {
        return Reference.isObject(family, p, row()) ? 1 : 0;
    }

    long rank() {
        return isObject() == 0 ? -2 : Reference.rank(family, p, row()).longValueExact();
    }

    int unrank(long rank) {
        return in(rank, 0, count() - 1) ? lay(BigInteger.valueOf(rank)) : -1;
    }

    int step(int by) {
        if (!in(by, -1000000, 1000000)) {
            return -1;
        }
        if (isObject() == 0) {
            return -2;
        }
        long place = rank() + by;
        if (!in(place, 0, count() - 1)) {
            return -6;
        }
        lay(BigInteger.valueOf(place));
        return 1;
    }

    long draw(long seed) {
        long x = seed * 6364136223846793005L + 1442695040888963407L;
        long y = x ^ (x >>> 33);
        long rank = (y >>> 1) % count();
        lay(BigInteger.valueOf(rank));
        return rank;
    }

    int transform() {
        if (isObject() == 0) {
            return -2;
        }
        int[] turned = transformation(row());
        if (family == 4 && turned[0] > p[1]) {
            return -6;
        }
        int changed = family == 0 && p[0] != 2 * p[1] ? 1 : 0;
        if (family == 0) {
            p = new int[] {p[0], p[0] - p[1], p[2], 0};
        }
        return Math.max(changed, write(turned));
    }

    private int[] transformation(int[] row) {
        List<Integer> result = new ArrayList<>();
        switch (family) {
            case 0:
                for (int e = 0; e < p[0]; e++) {
                    if (indexOf(row, e) < 0) {
                        result.add(e);
                    }
                }
                break;
            case 1:
                for (int e = 0; e < row.length; e++) {
                    result.add(indexOf(row, e));
                }
                break;
            case 2:
                for (int e : row) {
                    result.add(0, new int[] {1, 0, 3, 2}[e]);
                }
                break;
            case 3:
                return mirror(row);
            case 4:
                for (int i = 0; i < row.length; i++) {
                    int limit = i;
                    result.add((int) Arrays.stream(row).filter(e -> e > limit).count());
                }
                break;
            default:
                for (int e : row) {
                    result.add(0, e);
                }
        }
        return result.stream().mapToInt(e -> e).toArray();
    }

    private static int indexOf(int[] row, int element) {
        for (int i = 0; i < row.length; i++) {
            if (row[i] == element) {
                return i;
            }
        }
        return -1;
    }

    private static int[] mirror(int[] tree) {
        if (tree.length == 0) {
            return tree;
        }
        int[] right = Reference.rightOf(tree);
        return Lists.joined(right.length, mirror(right), mirror(Reference.leftOf(tree)));
    }

    int toWord() {
        if (family != 3 || p[0] > 20) {
            return -3;
        }
        if (isObject() == 0) {
            return -2;
        }
        String word = word(row());
        family = 2;
        p = new int[] {p[0], 1, 0, 0};
        write(word.chars().map(c -> c - '0').toArray());
        return p[0];
    }

    private static String word(int[] tree) {
        return tree.length == 0 ? "" : "0" + word(Reference.leftOf(tree)) + "1" + word(Reference.rightOf(tree));
    }

    int toTree() {
        if (family != 2 || p[1] != 1) {
            return -3;
        }
        if (isObject() == 0) {
            return -2;
        }
        int[] tree = tree(row());
        family = 3;
        p = new int[] {p[0], 0, 0, 0};
        write(tree);
        return p[0];
    }

    private static int[] tree(int[] word) {
        if (word.length == 0) {
            return word;
        }
        int depth = 1;
        int close = 0;
        while (depth > 0) {
            close++;
            depth += word[close] == 0 ? 1 : -1;
        }
        int[] left = tree(Arrays.copyOfRange(word, 1, close));
        return Lists.joined(left.length, left, tree(Arrays.copyOfRange(word, close + 1, word.length)));
    }

    int descents() {
        if (isObject() == 0) {
            return -2;
        }
        int found = 0;
        for (int i = 1; i < length(); i++) {
            found += buffer[i] < buffer[i - 1] ? 1 : 0;
        }
        return found;
    }

    int store() {
        if (isObject() == 0) {
            return -2;
        }
        if (archive.size() == 10 || product().multiply(Reference.count(family, p)).compareTo(MOST) > 0) {
            return -4;
        }
        archive.add(new Entry(family, p.clone(), Reference.rank(family, p, row())));
        return archive.size() - 1;
    }

    int fetch(int entry) {
        if (!in(entry, 0, archive.size() - 1)) {
            return -5;
        }
        family = archive.get(entry).family();
        p = archive.get(entry).p().clone();
        lay(archive.get(entry).rank());
        return family;
    }

    int clear() {
        int before = archive.size();
        archive.clear();
        return before;
    }

    int entries() {
        return archive.size();
    }

    private BigInteger product() {
        return archive.stream().map(Entry::size).reduce(BigInteger.ONE, BigInteger::multiply);
    }

    long total() {
        return product().longValueExact();
    }

    private BigInteger number() {
        BigInteger code = BigInteger.ZERO;
        for (Entry entry : archive) {
            code = code.multiply(entry.size()).add(entry.rank());
        }
        return code;
    }

    long code() {
        return number().longValueExact();
    }

    /** Reads a code from the front: what the entries behind an entry can say is one share of its ranks. */
    int decode(long code) {
        if (!in(code, 0, total() - 1)) {
            return -1;
        }
        BigInteger rest = BigInteger.valueOf(code);
        BigInteger share = product();
        int changed = 0;
        for (int i = 0; i < archive.size(); i++) {
            Entry old = archive.get(i);
            share = share.divide(old.size());
            BigInteger rank = rest.divide(share);
            rest = rest.mod(share);
            changed += rank.equals(old.rank()) ? 0 : 1;
            archive.set(i, new Entry(old.family(), old.p(), rank));
        }
        return changed;
    }

    int sort() {
        List<Entry> sorted = new ArrayList<>(archive);
        sorted.sort(Comparator.comparing(Entry::key, Arrays::compare));
        boolean same = true;
        for (int i = 0; i < sorted.size(); i++) {
            same &= sorted.get(i) == archive.get(i);
        }
        archive = sorted;
        return same ? 0 : 1;
    }
}
