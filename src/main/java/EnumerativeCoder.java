/**
 * Ranks and unranks combinatorial objects in given orders, steps to neighbouring objects,
 * transforms them, and packs several of them into one number.
 */
public final class EnumerativeCoder {
    public static final int BAD_VALUE = -1;
    public static final int NOT_AN_OBJECT = -2;
    public static final int WRONG_FAMILY = -3;
    public static final int FULL = -4;
    public static final int NO_SUCH_ENTRY = -5;
    public static final int NONE = -6;

    private static final int SUBSETS = 0;
    private static final int PERMUTATIONS = 1;
    private static final int WORDS = 2;
    private static final int TREES = 3;
    private static final int PARTITIONS = 4;
    private static final int ARRANGEMENTS = 5;

    private static final int PLACES = 60;
    private static final int SETTINGS = 4;
    private static final int MOST_IN_PERMUTATION = 20;
    private static final int MOST_PAIRS = 20;
    private static final int MOST_NODES = 30;
    private static final int MOST_IN_ARRANGEMENT = 20;
    private static final int GREATEST_INTEGER = 1000;
    private static final int NO_INTEGER = -1001;
    private static final int GREATEST_STEP = 1000000;

    private final int[] buffer = new int[PLACES];
    /** New objects are written here first, because they are made while the old one is read. */
    private final int[] draft = new int[PLACES];
    private final Desk desk = new Desk();
    private final Archive archive = new Archive();
    private Family present = new Subsets(0, 0, 0, 1L);

    public EnumerativeCoder() {
    }

    // ---- families

    public int selectSubsets(int n, int k, int order) {
        if (n < 0 || n > PLACES || k < 0 || k > n || order < 0 || order > Subsets.REVOLVING_DOOR) {
            return BAD_VALUE;
        }
        return choose(new Subsets(n, k, order, desk.binomial(n, k)));
    }

    public int selectPermutations(int n, int order) {
        if (n < 1 || n > MOST_IN_PERMUTATION || order < 0 || order > Permutations.PLAIN_CHANGES) {
            return BAD_VALUE;
        }
        return choose(new Permutations(n, order, Permutations.factorial(n)));
    }

    public int selectWords(int pairs, int types) {
        if (pairs < 1 || pairs > MOST_PAIRS || types < 1 || types > 2) {
            return BAD_VALUE;
        }
        return choose(wordsOf(pairs, types));
    }

    public int selectTrees(int nodes) {
        if (nodes < 1 || nodes > MOST_NODES) {
            return BAD_VALUE;
        }
        return choose(treesOf(nodes));
    }

    public int selectPartitions(int n, int greatest) {
        if (n < 1 || n > PLACES || greatest < 1 || greatest > n) {
            return BAD_VALUE;
        }
        return choose(new Partitions(n, greatest, desk.partitions(n, greatest)));
    }

    public int selectArrangements(int zeros, int ones, int twos, int threes) {
        if (isNoLetterCount(zeros) || isNoLetterCount(ones) || isNoLetterCount(twos) || isNoLetterCount(threes)) {
            return BAD_VALUE;
        }
        int sum = zeros + ones + twos + threes;
        if (sum < 1 || sum > MOST_IN_ARRANGEMENT) {
            return BAD_VALUE;
        }
        long size = desk.arrangements(zeros, ones, twos, threes);
        return choose(new Arrangements(zeros, ones, twos, threes, size));
    }

    public int family() {
        return present.number;
    }

    public int parameter(int i) {
        return i < 0 || i >= SETTINGS ? BAD_VALUE : present.setting(i);
    }

    public int length() {
        return present.width;
    }

    public long count() {
        return present.size;
    }

    // ---- the buffer

    public int put(int i, int value) {
        if (i < 0 || i >= PLACES || value < -GREATEST_INTEGER || value > GREATEST_INTEGER) {
            return NO_INTEGER;
        }
        int previous = at(buffer, i);
        set(buffer, i, value);
        return previous;
    }

    public int get(int i) {
        return i < 0 || i >= PLACES ? NO_INTEGER : at(buffer, i);
    }

    public int isObject() {
        return holdsObject() ? 1 : 0;
    }

    // ---- ranks

    public long rank() {
        return holdsObject() ? present.placeOf(buffer, desk) : NOT_AN_OBJECT;
    }

    public int unrank(long rank) {
        if (rank < 0 || rank >= present.size) {
            return BAD_VALUE;
        }
        return layDown(rank) ? 1 : 0;
    }

    public int step(int by) {
        if (by < -GREATEST_STEP || by > GREATEST_STEP) {
            return BAD_VALUE;
        }
        if (!holdsObject()) {
            return NOT_AN_OBJECT;
        }
        long place = present.placeOf(buffer, desk) + by;
        if (place < 0 || place >= present.size) {
            return NONE;
        }
        layDown(place);
        return 1;
    }

    public long draw(long seed) {
        long x = seed * 6364136223846793005L + 1442695040888963407L;
        long y = x ^ (x >>> 33);
        long place = remainder(y >>> 1, present.size);
        layDown(place);
        return place;
    }

    // ---- objects

    public int transform() {
        if (!holdsObject()) {
            return NOT_AN_OBJECT;
        }
        Family turned = present.turnedFamily();
        present.turn(buffer, draft, desk);
        // Only a conjugate can fall outside: its first element may exceed the greatest part.
        if (!turned.accepts(draft, desk)) {
            return NONE;
        }
        // The parameters change just where k does, and k is the length.
        boolean otherSettings = turned.width != present.width;
        present = turned;
        boolean otherElements = takeDraft();
        return otherSettings || otherElements ? 1 : 0;
    }

    public int toWord() {
        int nodes = present.width;
        if (present.number != TREES || nodes > MOST_PAIRS) {
            return WRONG_FAMILY;
        }
        if (!holdsObject()) {
            return NOT_AN_OBJECT;
        }
        Trees.spell(buffer, nodes, draft, desk);
        present = wordsOf(nodes, 1);
        takeDraft();
        return nodes;
    }

    public int toTree() {
        if (present.number != WORDS || present.setting(1) != 1) {
            return WRONG_FAMILY;
        }
        if (!holdsObject()) {
            return NOT_AN_OBJECT;
        }
        int pairs = present.setting(0);
        Words.grow(buffer, pairs, draft, desk);
        present = treesOf(pairs);
        takeDraft();
        return pairs;
    }

    public int descents() {
        if (!holdsObject()) {
            return NOT_AN_OBJECT;
        }
        int found = 0;
        for (int i = 1; i < present.width; i++) {
            if (at(buffer, i) < at(buffer, i - 1)) {
                found++;
            }
        }
        return found;
    }

    // ---- the archive

    public int store() {
        if (!holdsObject()) {
            return NOT_AN_OBJECT;
        }
        if (!archive.hasRoomFor(present.size)) {
            return FULL;
        }
        return archive.append(present, present.placeOf(buffer, desk));
    }

    public int fetch(int entry) {
        Family kept = archive.familyAt(entry);
        if (kept == null) {
            return NO_SUCH_ENTRY;
        }
        present = kept;
        layDown(archive.placeAt(entry));
        return kept.number;
    }

    public int clear() {
        return archive.dropAll();
    }

    public int entries() {
        return archive.used;
    }

    public long total() {
        return archive.product;
    }

    public long code() {
        return archive.packed();
    }

    public int decode(long code) {
        if (code < 0 || code >= archive.product) {
            return BAD_VALUE;
        }
        return archive.unpack(code);
    }

    public int sort() {
        return archive.arrange() ? 1 : 0;
    }

    // ---- what the methods share

    private static boolean isNoLetterCount(int value) {
        return value < 0 || value > MOST_IN_ARRANGEMENT;
    }

    private Family wordsOf(int pairs, int types) {
        return new Words(pairs, types, desk.wordEnds(2 * pairs, 0, types));
    }

    private Family treesOf(int nodes) {
        return new Trees(nodes, desk.trees(nodes));
    }

    /** Makes a family the present one, with its first object; answers the length of its objects. */
    private int choose(Family chosen) {
        present = chosen;
        chosen.lay(0L, draft, desk);
        takeDraft();
        return chosen.width;
    }

    private boolean holdsObject() {
        return present.accepts(buffer, desk);
    }

    /** Stores the object at a place of the list; tells whether the buffer changes. */
    private boolean layDown(long place) {
        present.lay(place, draft, desk);
        return takeDraft();
    }

    /** Copies only the places of the object, since the others keep their values. */
    private boolean takeDraft() {
        boolean changed = false;
        for (int i = 0; i < present.width; i++) {
            int value = at(draft, i);
            if (at(buffer, i) != value) {
                set(buffer, i, value);
                changed = true;
            }
        }
        return changed;
    }

    private static int at(int[] row, int i) {
        return i >= 0 && i < row.length ? row[i] : 0;
    }

    private static long at(long[] row, int i) {
        return i >= 0 && i < row.length ? row[i] : 0L;
    }

    private static void set(int[] row, int i, int value) {
        if (i >= 0 && i < row.length) {
            row[i] = value;
        }
    }

    private static void set(long[] row, int i, long value) {
        if (i >= 0 && i < row.length) {
            row[i] = value;
        }
    }

    private static long quotient(long number, long divisor) {
        return divisor > 0 ? number / divisor : 0L;
    }

    private static long remainder(long number, long divisor) {
        return divisor > 0 ? number % divisor : 0L;
    }

    /** The tables of numbers and the rows for work, made once for all calls. */
    private static final class Desk {
        private static final int TRIANGLE = (PLACES + 1) * (PLACES + 2) / 2;

        private final long[] binomials = binomialTriangle();
        private final int[] partitionCounts = partitionTriangle();
        private final long[] treeCounts = treeRow();
        /** For trees: the number of nodes of the subtree of each node, in preorder. */
        private final int[] sizes = new int[PLACES];
        /** For trees: where the subtree of each node begins in the result; for words: the open nodes. */
        private final int[] starts = new int[PLACES];
        /** For trees: the rank of the subtree of each node among those of its size. */
        private final long[] ranks = new long[PLACES];
        /** For arrangements: how often each letter is still to come. */
        private final int[] letters = new int[SETTINGS];

        /** A triangle's rows stand one behind the other, each one longer than the last. */
        private static int spot(int row, int column) {
            return row * (row + 1) / 2 + column;
        }

        private static long[] binomialTriangle() {
            long[] triangle = new long[TRIANGLE];
            for (int n = 0; n <= PLACES; n++) {
                set(triangle, spot(n, 0), 1L);
                for (int k = 1; k < n; k++) {
                    long ways = at(triangle, spot(n - 1, k - 1)) + at(triangle, spot(n - 1, k));
                    set(triangle, spot(n, k), ways);
                }
                set(triangle, spot(n, n), 1L);
            }
            return triangle;
        }

        private static int[] partitionTriangle() {
            int[] triangle = new int[TRIANGLE];
            set(triangle, spot(0, 0), 1);
            for (int n = 1; n <= PLACES; n++) {
                for (int greatest = 1; greatest <= n; greatest++) {
                    int rest = n - greatest;
                    int with = at(triangle, spot(rest, Math.min(rest, greatest)));
                    set(triangle, spot(n, greatest), at(triangle, spot(n, greatest - 1)) + with);
                }
            }
            return triangle;
        }

        /** A tree with a root has a left and a right subtree, which share the other nodes. */
        private static long[] treeRow() {
            long[] counts = new long[MOST_NODES + 1];
            set(counts, 0, 1L);
            for (int nodes = 1; nodes <= MOST_NODES; nodes++) {
                long ways = 0;
                for (int left = 0; left < nodes; left++) {
                    ways += at(counts, left) * at(counts, nodes - 1 - left);
                }
                set(counts, nodes, ways);
            }
            return counts;
        }

        private long binomial(int n, int k) {
            return k < 0 || k > n || n > PLACES ? 0L : at(binomials, spot(n, k));
        }

        /** How many partitions a number has whose parts are at most the greatest. */
        private int partitions(int n, int greatest) {
            if (n < 0 || n > PLACES || greatest < 0) {
                return 0;
            }
            return at(partitionCounts, spot(n, Math.min(n, greatest)));
        }

        /** In how many ways so many letters can end a word in which so many brackets are open. */
        private long wordEnds(int toCome, int open, int types) {
            if (open < 0 || open > toCome) {
                return 0L;
            }
            int opening = (toCome - open) / 2;
            long shapes = binomial(toCome, opening) - binomial(toCome, opening - 1);
            // The closing brackets have no choice of their types.
            return types == 2 ? shapes << opening : shapes;
        }

        private long trees(int nodes) {
            return at(treeCounts, nodes);
        }

        private long arrangements(int zeros, int ones, int twos, int threes) {
            return binomial(zeros + ones + twos + threes, zeros) * binomial(ones + twos + threes, ones)
                    * binomial(twos + threes, twos);
        }
    }

    /** A family with its parameters; it never changes, so that archive entries can keep it. */
    private abstract static class Family {
        final int number;
        final int width;
        final long size;

        Family(int number, int width, long size) {
            this.number = number;
            this.width = width;
            this.size = size;
        }

        /** A parameter by its number, 0 where there is none. */
        abstract int setting(int i);

        abstract boolean accepts(int[] row, Desk desk);

        /** The rank of an object that the family accepts. */
        abstract long placeOf(int[] row, Desk desk);

        /** Writes the object with a rank. */
        abstract void lay(long place, int[] row, Desk desk);

        /** Writes the transformation of an object that the family accepts. */
        abstract void turn(int[] row, int[] result, Desk desk);

        /** The family to which the transformations belong. */
        Family turnedFamily() {
            return this;
        }
    }

    private static final class Subsets extends Family {
        private static final int LEXICOGRAPHIC = 0;
        private static final int REVOLVING_DOOR = 2;

        private final int n;
        private final int order;

        private Subsets(int n, int k, int order, long size) {
            super(SUBSETS, k, size);
            this.n = n;
            this.order = order;
        }

        int setting(int i) {
            switch (i) {
                case 0: return n;
                case 1: return width;
                case 2: return order;
                default: return 0;
            }
        }

        boolean accepts(int[] row, Desk desk) {
            int last = -1;
            for (int i = 0; i < width; i++) {
                int element = at(row, i);
                if (element <= last || element >= n) {
                    return false;
                }
                last = element;
            }
            return true;
        }

        long placeOf(int[] row, Desk desk) {
            if (order == LEXICOGRAPHIC) {
                return lexicographicPlace(row, desk);
            }
            long place = 0;
            for (int i = 0; i < width; i++) {
                int element = at(row, i);
                if (order == REVOLVING_DOOR) {
                    // Up to this element, the objects that end with it stand last, in reverse order.
                    place = desk.binomial(element + 1, i + 1) - 1 - place;
                } else {
                    place += desk.binomial(element, i + 1);
                }
            }
            return place;
        }

        private long lexicographicPlace(int[] row, Desk desk) {
            long place = 0;
            int next = 0;
            for (int element = 0; element < n && next < width; element++) {
                if (at(row, next) == element) {
                    next++;
                } else {
                    place += desk.binomial(n - 1 - element, width - 1 - next);
                }
            }
            return place;
        }

        void lay(long place, int[] row, Desk desk) {
            if (order == LEXICOGRAPHIC) {
                layLexicographic(place, row, desk);
                return;
            }
            long rest = place;
            int i = width - 1;
            for (int element = n - 1; element >= 0 && i >= 0; element--) {
                long without = desk.binomial(element, i + 1);
                if (rest >= without) {
                    set(row, i, element);
                    rest = order == REVOLVING_DOOR ? desk.binomial(element + 1, i + 1) - 1 - rest : rest - without;
                    i--;
                }
            }
        }

        private void layLexicographic(long place, int[] row, Desk desk) {
            long rest = place;
            int next = 0;
            for (int element = 0; element < n && next < width; element++) {
                long with = desk.binomial(n - 1 - element, width - 1 - next);
                if (rest < with) {
                    set(row, next, element);
                    next++;
                } else {
                    rest -= with;
                }
            }
        }

        /** The complement. */
        void turn(int[] row, int[] result, Desk desk) {
            int next = 0;
            int written = 0;
            for (int element = 0; element < n; element++) {
                if (next < width && at(row, next) == element) {
                    next++;
                } else {
                    set(result, written, element);
                    written++;
                }
            }
        }

        Family turnedFamily() {
            return new Subsets(n, n - width, order, size);
        }
    }

    private static final class Permutations extends Family {
        private static final int PLAIN_CHANGES = 1;

        private final int order;

        private Permutations(int n, int order, long size) {
            super(PERMUTATIONS, n, size);
            this.order = order;
        }

        private static long factorial(int n) {
            long product = 1;
            for (int i = 2; i <= n; i++) {
                product *= i;
            }
            return product;
        }

        int setting(int i) {
            switch (i) {
                case 0: return width;
                case 1: return order;
                default: return 0;
            }
        }

        boolean accepts(int[] row, Desk desk) {
            int seen = 0;
            for (int i = 0; i < width; i++) {
                int value = at(row, i);
                if (value < 0 || value >= width || (seen >> value & 1) == 1) {
                    return false;
                }
                seen |= 1 << value;
            }
            return true;
        }

        long placeOf(int[] row, Desk desk) {
            return order == PLAIN_CHANGES ? plainPlace(row) : lexicographicPlace(row);
        }

        private long lexicographicPlace(int[] row) {
            long place = 0;
            for (int i = 0; i < width; i++) {
                int lessBehind = 0;
                for (int j = i + 1; j < width; j++) {
                    if (at(row, j) < at(row, i)) {
                        lessBehind++;
                    }
                }
                place = place * (width - i) + lessBehind;
            }
            return place;
        }

        private long plainPlace(int[] row) {
            long place = 0;
            for (int value = 1; value < width; value++) {
                int inserted = plainTurn(place, value, lessBefore(row, value));
                place = place * (value + 1) + inserted;
            }
            return place;
        }

        private int lessBefore(int[] row, int value) {
            int found = 0;
            for (int i = 0; i < width && at(row, i) != value; i++) {
                if (at(row, i) < value) {
                    found++;
                }
            }
            return found;
        }

        /** Exchanges the turn at which a value is inserted and its place: behind an even rank it runs down. */
        private static int plainTurn(long place, int value, int turn) {
            return (place & 1) == 0 ? value - turn : turn;
        }

        void lay(long place, int[] row, Desk desk) {
            if (order == PLAIN_CHANGES) {
                layPlain(place, row);
            } else {
                layLexicographic(place, row);
            }
        }

        private void layLexicographic(long place, int[] row) {
            long rest = place;
            for (int i = width - 1; i >= 0; i--) {
                int value = (int) remainder(rest, width - i);
                rest = quotient(rest, width - i);
                set(row, i, value);
                for (int j = i + 1; j < width; j++) {
                    if (at(row, j) >= value) {
                        set(row, j, at(row, j) + 1);
                    }
                }
            }
        }

        private void layPlain(long place, int[] row) {
            for (int i = 0; i < width; i++) {
                set(row, i, -1);
            }
            long rest = place;
            for (int value = width - 1; value >= 0; value--) {
                int turn = (int) remainder(rest, value + 1);
                rest = quotient(rest, value + 1);
                set(row, freePlace(row, plainTurn(rest, value, turn)), value);
            }
        }

        /** The free place before which so many others are free: lesser values will come into them. */
        private int freePlace(int[] row, int freeBefore) {
            int free = 0;
            for (int i = 0; i < width; i++) {
                if (at(row, i) < 0) {
                    if (free == freeBefore) {
                        return i;
                    }
                    free++;
                }
            }
            return -1;
        }

        /** The inverse. */
        void turn(int[] row, int[] result, Desk desk) {
            for (int i = 0; i < width; i++) {
                set(result, at(row, i), i);
            }
        }
    }

    /** Of a letter, the lowest bit tells a closing bracket, the next one the type. */
    private static final class Words extends Family {
        private final int pairs;
        private final int types;

        private Words(int pairs, int types, long size) {
            super(WORDS, 2 * pairs, size);
            this.pairs = pairs;
            this.types = types;
        }

        int setting(int i) {
            switch (i) {
                case 0: return pairs;
                case 1: return types;
                default: return 0;
            }
        }

        private static boolean isOpening(int letter) {
            return (letter & 1) == 0;
        }

        /** The types of the open brackets are bits of one number, the latest one the lowest. */
        private static long openAfter(long open, int letter) {
            return isOpening(letter) ? open << 1 | letter >> 1 : open >>> 1;
        }

        private static int depthAfter(int depth, int letter) {
            return isOpening(letter) ? depth + 1 : depth - 1;
        }

        private static boolean mayFollow(int letter, int depth, long open) {
            return isOpening(letter) || depth > 0 && (open & 1) == letter >> 1;
        }

        /** In how many ways a word can end after a letter at a place, 0 if the letter can't stand there. */
        private long waysAfter(int letter, int i, int depth, long open, Desk desk) {
            return mayFollow(letter, depth, open)
                    ? desk.wordEnds(width - 1 - i, depthAfter(depth, letter), types) : 0L;
        }

        boolean accepts(int[] row, Desk desk) {
            int depth = 0;
            long open = 0;
            for (int i = 0; i < width; i++) {
                int letter = at(row, i);
                if (letter < 0 || letter >= 2 * types || !mayFollow(letter, depth, open)) {
                    return false;
                }
                depth = depthAfter(depth, letter);
                open = openAfter(open, letter);
            }
            return depth == 0;
        }

        long placeOf(int[] row, Desk desk) {
            long place = 0;
            int depth = 0;
            long open = 0;
            for (int i = 0; i < width; i++) {
                int letter = at(row, i);
                for (int lower = 0; lower < letter; lower++) {
                    place += waysAfter(lower, i, depth, open, desk);
                }
                depth = depthAfter(depth, letter);
                open = openAfter(open, letter);
            }
            return place;
        }

        void lay(long place, int[] row, Desk desk) {
            long rest = place;
            int depth = 0;
            long open = 0;
            for (int i = 0; i < width; i++) {
                int letter = 0;
                for (int lower = 0; lower < 2 * types - 1; lower++) {
                    long ways = waysAfter(lower, i, depth, open, desk);
                    if (rest < ways) {
                        break;
                    }
                    rest -= ways;
                    letter = lower + 1;
                }
                set(row, i, letter);
                depth = depthAfter(depth, letter);
                open = openAfter(open, letter);
            }
        }

        /** The mirror image. */
        void turn(int[] row, int[] result, Desk desk) {
            for (int i = 0; i < width; i++) {
                set(result, i, at(row, width - 1 - i) ^ 1);
            }
        }

        /** Writes the tree of a word: the opening brackets are its nodes, in preorder. */
        private static void grow(int[] word, int pairs, int[] tree, Desk desk) {
            int nodes = 0;
            int depth = 0;
            for (int i = 0; i < 2 * pairs; i++) {
                if (isOpening(at(word, i))) {
                    set(desk.starts, depth, nodes);
                    depth++;
                    nodes++;
                } else {
                    depth--;
                    int node = at(desk.starts, depth);
                    // What was opened since then is the left subtree.
                    set(tree, node, nodes - 1 - node);
                }
            }
        }
    }

    private static final class Trees extends Family {
        private Trees(int nodes, long size) {
            super(TREES, nodes, size);
        }

        int setting(int i) {
            return i == 0 ? width : 0;
        }

        boolean accepts(int[] row, Desk desk) {
            return measure(row, width, desk.sizes);
        }

        /** Writes the sizes of all subtrees; tells whether the sequence is that of a tree. */
        private static boolean measure(int[] tree, int nodes, int[] sizes) {
            set(sizes, 0, nodes);
            for (int node = 0; node < nodes; node++) {
                int left = at(tree, node);
                int right = at(sizes, node) - 1 - left;
                if (left < 0 || right < 0) {
                    return false;
                }
                splitSize(sizes, node, left);
            }
            return true;
        }

        /** Hands the nodes below a node on to its subtrees; an empty subtree has no place in the row. */
        private static void splitSize(int[] sizes, int node, int left) {
            int right = at(sizes, node) - 1 - left;
            if (left > 0) {
                set(sizes, node + 1, left);
            }
            if (right > 0) {
                set(sizes, node + 1 + left, right);
            }
        }

        long placeOf(int[] row, Desk desk) {
            measure(row, width, desk.sizes);
            for (int node = width - 1; node >= 0; node--) {
                int left = at(row, node);
                int right = at(desk.sizes, node) - 1 - left;
                long place = 0;
                for (int less = 0; less < left; less++) {
                    place += desk.trees(less) * desk.trees(left + right - less);
                }
                if (left > 0) {
                    place += at(desk.ranks, node + 1) * desk.trees(right);
                }
                if (right > 0) {
                    place += at(desk.ranks, node + 1 + left);
                }
                set(desk.ranks, node, place);
            }
            return at(desk.ranks, 0);
        }

        void lay(long place, int[] row, Desk desk) {
            set(desk.sizes, 0, width);
            set(desk.ranks, 0, place);
            for (int node = 0; node < width; node++) {
                int below = at(desk.sizes, node) - 1;
                long rest = at(desk.ranks, node);
                int left = 0;
                for (int less = 0; less < below; less++) {
                    long ways = desk.trees(less) * desk.trees(below - less);
                    if (rest < ways) {
                        break;
                    }
                    rest -= ways;
                    left = less + 1;
                }
                set(row, node, left);
                splitSize(desk.sizes, node, left);
                splitRank(desk, node, left, rest);
            }
        }

        private static void splitRank(Desk desk, int node, int left, long rest) {
            int right = at(desk.sizes, node) - 1 - left;
            long rightTrees = desk.trees(right);
            if (left > 0) {
                set(desk.ranks, node + 1, quotient(rest, rightTrees));
            }
            if (right > 0) {
                set(desk.ranks, node + 1 + left, remainder(rest, rightTrees));
            }
        }

        /** The mirror image. */
        void turn(int[] row, int[] result, Desk desk) {
            measure(row, width, desk.sizes);
            set(desk.starts, 0, 0);
            for (int node = 0; node < width; node++) {
                int left = at(row, node);
                int right = at(desk.sizes, node) - 1 - left;
                int start = at(desk.starts, node);
                set(result, start, right);
                if (left > 0) {
                    set(desk.starts, node + 1, start + 1 + right);
                }
                if (right > 0) {
                    set(desk.starts, node + 1 + left, start + 1);
                }
            }
        }

        /** Writes the word of a tree; each subtree takes two letters for each of its nodes. */
        private static void spell(int[] tree, int nodes, int[] word, Desk desk) {
            measure(tree, nodes, desk.sizes);
            set(desk.starts, 0, 0);
            for (int node = 0; node < nodes; node++) {
                int left = at(tree, node);
                int right = at(desk.sizes, node) - 1 - left;
                int start = at(desk.starts, node);
                int close = start + 1 + 2 * left;
                set(word, start, 0);
                set(word, close, 1);
                if (left > 0) {
                    set(desk.starts, node + 1, start + 1);
                }
                if (right > 0) {
                    set(desk.starts, node + 1 + left, close + 1);
                }
            }
        }
    }

    private static final class Partitions extends Family {
        private final int greatest;

        private Partitions(int n, int greatest, long size) {
            super(PARTITIONS, n, size);
            this.greatest = greatest;
        }

        int setting(int i) {
            switch (i) {
                case 0: return width;
                case 1: return greatest;
                default: return 0;
            }
        }

        boolean accepts(int[] row, Desk desk) {
            int sum = 0;
            int last = greatest;
            for (int i = 0; i < width; i++) {
                int part = at(row, i);
                if (part < 0 || part > last) {
                    return false;
                }
                sum += part;
                last = part;
            }
            return sum == width;
        }

        long placeOf(int[] row, Desk desk) {
            long place = 0;
            int rest = width;
            for (int i = 0; i < width && rest > 0; i++) {
                int part = at(row, i);
                // Those with a lesser part here: all of its parts from here on are lesser.
                place += desk.partitions(rest, part - 1);
                rest -= part;
            }
            return place;
        }

        void lay(long place, int[] row, Desk desk) {
            long left = place;
            int rest = width;
            int last = greatest;
            for (int i = 0; i < width; i++) {
                int part = Math.min(rest, 1);
                while (part < last && part < rest && desk.partitions(rest, part) <= left) {
                    part++;
                }
                left -= rest > 0 ? desk.partitions(rest, part - 1) : 0;
                set(row, i, part);
                rest -= part;
                last = part;
            }
        }

        /** The conjugate. */
        void turn(int[] row, int[] result, Desk desk) {
            for (int i = 0; i < width; i++) {
                int greater = 0;
                for (int j = 0; j < width; j++) {
                    if (at(row, j) > i) {
                        greater++;
                    }
                }
                set(result, i, greater);
            }
        }
    }

    private static final class Arrangements extends Family {
        private final int zeros;
        private final int ones;
        private final int twos;
        private final int threes;

        private Arrangements(int zeros, int ones, int twos, int threes, long size) {
            super(ARRANGEMENTS, zeros + ones + twos + threes, size);
            this.zeros = zeros;
            this.ones = ones;
            this.twos = twos;
            this.threes = threes;
        }

        int setting(int i) {
            switch (i) {
                case 0: return zeros;
                case 1: return ones;
                case 2: return twos;
                case 3: return threes;
                default: return 0;
            }
        }

        private void layOutLetters(int[] letters) {
            for (int letter = 0; letter < SETTINGS; letter++) {
                set(letters, letter, setting(letter));
            }
        }

        boolean accepts(int[] row, Desk desk) {
            layOutLetters(desk.letters);
            for (int i = 0; i < width; i++) {
                int letter = at(row, i);
                if (letter < 0 || letter >= SETTINGS || at(desk.letters, letter) < 1) {
                    return false;
                }
                change(desk.letters, letter, -1);
            }
            return true;
        }

        long placeOf(int[] row, Desk desk) {
            layOutLetters(desk.letters);
            long place = 0;
            for (int i = 0; i < width; i++) {
                int letter = at(row, i);
                for (int lower = 0; lower < letter; lower++) {
                    place += waysAfter(lower, desk);
                }
                change(desk.letters, letter, -1);
            }
            return place;
        }

        private static void change(int[] letters, int letter, int by) {
            set(letters, letter, at(letters, letter) + by);
        }

        /** In how many ways an arrangement can end after a letter, 0 if none of it is left. */
        private static long waysAfter(int letter, Desk desk) {
            int[] left = desk.letters;
            if (at(left, letter) < 1) {
                return 0L;
            }
            change(left, letter, -1);
            long ways = desk.arrangements(at(left, 0), at(left, 1), at(left, 2), at(left, 3));
            change(left, letter, 1);
            return ways;
        }

        void lay(long place, int[] row, Desk desk) {
            layOutLetters(desk.letters);
            long rest = place;
            for (int i = 0; i < width; i++) {
                int letter = 0;
                for (int lower = 0; lower < SETTINGS - 1; lower++) {
                    long ways = waysAfter(lower, desk);
                    if (rest < ways) {
                        break;
                    }
                    rest -= ways;
                    letter = lower + 1;
                }
                set(row, i, letter);
                change(desk.letters, letter, -1);
            }
        }

        /** The reversed arrangement. */
        void turn(int[] row, int[] result, Desk desk) {
            for (int i = 0; i < width; i++) {
                set(result, i, at(row, width - 1 - i));
            }
        }
    }

    private static final class Archive {
        private static final int MOST_ENTRIES = 10;
        private static final long MOST_TOTAL = 1L << 62;

        private final Family[] families = new Family[MOST_ENTRIES];
        private final long[] places = new long[MOST_ENTRIES];
        private int used;
        private long product = 1L;

        /** Divides instead of multiplying, because the product might not fit. */
        private boolean hasRoomFor(long size) {
            return used < MOST_ENTRIES && product <= quotient(MOST_TOTAL, size);
        }

        private int append(Family family, long place) {
            int entry = used;
            keep(entry, family, place);
            product *= family.size;
            used++;
            return entry;
        }

        private void keep(int entry, Family family, long place) {
            if (entry >= 0 && entry < families.length) {
                families[entry] = family;
                set(places, entry, place);
            }
        }

        /** Null where there is no such entry. */
        private Family familyAt(int entry) {
            return entry >= 0 && entry < used && entry < families.length ? families[entry] : null;
        }

        private long placeAt(int entry) {
            return at(places, entry);
        }

        private long sizeAt(int entry) {
            Family family = familyAt(entry);
            return family == null ? 1L : family.size;
        }

        private int dropAll() {
            int dropped = used;
            used = 0;
            product = 1L;
            return dropped;
        }

        private long packed() {
            long packed = 0;
            for (int entry = 0; entry < used; entry++) {
                packed = packed * sizeAt(entry) + placeAt(entry);
            }
            return packed;
        }

        /** Gives the entries the ranks of a code; answers how many change. */
        private int unpack(long packed) {
            long rest = packed;
            int changed = 0;
            for (int entry = used - 1; entry >= 0; entry--) {
                long place = remainder(rest, sizeAt(entry));
                rest = quotient(rest, sizeAt(entry));
                if (place != placeAt(entry)) {
                    set(places, entry, place);
                    changed++;
                }
            }
            return changed;
        }

        /** Sorts by exchanging neighbours that are not equal; tells whether any were exchanged. */
        private boolean arrange() {
            boolean exchanged = false;
            for (int end = 1; end < used; end++) {
                for (int entry = end; entry > 0 && compareEntries(entry - 1, entry) > 0; entry--) {
                    exchange(entry - 1, entry);
                    exchanged = true;
                }
            }
            return exchanged;
        }

        private void exchange(int one, int other) {
            Family family = familyAt(one);
            long place = placeAt(one);
            keep(one, familyAt(other), placeAt(other));
            keep(other, family, place);
        }

        private int compareEntries(int one, int other) {
            Family first = familyAt(one);
            Family second = familyAt(other);
            if (first == null || second == null) {
                return 0;
            }
            int order = Integer.compare(first.number, second.number);
            for (int i = 0; i < SETTINGS && order == 0; i++) {
                order = Integer.compare(first.setting(i), second.setting(i));
            }
            return order != 0 ? order : Long.compare(placeAt(one), placeAt(other));
        }
    }
}
