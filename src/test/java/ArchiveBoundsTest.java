import java.util.Arrays;

/** The edges of the archive: the sentences of 'The archive' and of promises 23 to 30. */
public final class ArchiveBoundsTest {
    private static final int LEAST = Integer.MIN_VALUE;
    private static final int MOST = Integer.MAX_VALUE;
    private static final long FACTORIAL_20 = 2432902008176640000L;
    private static final long GREATEST_TOTAL = 1L << 62;
    /** One family of each kind, with a rank and its number of objects. */
    private static final int[][] FAMILIES = {{7, 3, 2}, {3, 1}, {2, 2}, {4}, {5, 4}, {1, 2, 0, 1}};
    private static final long[] RANKS = {17, 4, 5, 9, 3, 7};
    private static final long[] COUNTS = {35, 6, 8, 14, 6, 12};

    private static EnumerativeCoder x;

    public static void main(String[] args) {
        emptyArchive();
        anEntryOfEachFamily();
        tenEntries();
        storeWithoutAnObject();
        storeWithSeveralErrors();
        totalOfExactlyTheGreatest();
        totalAboveTheGreatest();
        totalThatWrapsAround();
        totalThatStaysWithFamiliesOfOneObject();
        refusedStoresThatFitLater();
        entriesStayWhenTheObjectChanges();
        fetchOutOfRange();
        fetchOfBothEnds();
        fetchLeavesTheArchive();
        fetchOverTheBuffer();
        clearOfNoneAndTen();
        entriesAndTotal();
        codesOfBothEnds();
        codeFromTheFirstEntryOn();
        decodeOutOfRange();
        decodeWithoutEntries();
        decodeOfBothEnds();
        decodeCountsWhatChanges();
        decodeCarriesOver();
        decodeLeavesTheObject();
        sortOfNoneAndOne();
        sortByOneKey();
        sortByTheEarlierKey();
        sortOfTen();
        sortOfEqualEntries();
        sortByGreatRanks();
        sortLeavesTheRest();
        Tally.end();
    }

    private static int select(int family, int... p) {
        return ListsTest.select(x, family, p);
    }

    private static int keep(long rank, int family, int... p) {
        select(family, p);
        x.unrank(rank);
        return x.store();
    }

    private static void keepAll() {
        for (int family = 0; family < 6; family++) {
            Tally.same("store() of family " + family, keep(RANKS[family], family, FAMILIES[family]), family);
        }
    }

    private static void entryIs(int entry, long rank, int family, int... p) {
        Tally.same("fetch(" + entry + ")", x.fetch(entry), family);
        for (int i = 0; i < 4; i++) {
            Tally.same("parameter(" + i + ") of entry " + entry, x.parameter(i), i < p.length ? p[i] : 0);
        }
        Tally.same("rank() of entry " + entry, x.rank(), rank);
    }

    private static void archiveIs(int entries, long total, long code) {
        Tally.same("entries()", x.entries(), entries);
        Tally.same("total()", x.total(), total);
        Tally.same("code()", x.code(), code);
    }

    /** The code of the entries of all families, from the document's words. */
    private static long codeOfAll(long... ranks) {
        long code = 0;
        for (int i = 0; i < ranks.length; i++) {
            code = code * COUNTS[i] + ranks[i];
        }
        return code;
    }

    private static long product(long... counts) {
        long product = 1;
        for (long count : counts) {
            product *= count;
        }
        return product;
    }

    // ---- store

    private static void emptyArchive() {
        x = Tally.about("the archive: the total is 1 if there are no entries; the code is computed from 0");
        archiveIs(0, 1, 0);
        keep(3, 1, 3, 0);
        x.clear();
        archiveIs(0, 1, 0);
    }

    private static void anEntryOfEachFamily() {
        x = Tally.about("promise 23, adds an entry at the end of the archive; returns the number of the entry");
        keepAll();
        archiveIs(6, product(COUNTS), codeOfAll(RANKS));
        for (int family = 0; family < 6; family++) {
            entryIs(family, RANKS[family], family, FAMILIES[family]);
        }
    }

    private static void tenEntries() {
        x = Tally.about("the archive: at most 10 entries, numbered from 0; FULL if there are 10 entries");
        x.selectPermutations(3, 0);
        for (int i = 0; i < 10; i++) {
            x.unrank(i % 6);
            Tally.same("store()", x.store(), i);
        }
        x.unrank(5);
        for (int i = 0; i < 3; i++) {
            Tally.same("store() of one more", x.store(), -4);
            Tally.same("entries()", x.entries(), 10);
            Tally.same("total()", x.total(), 60466176);
        }
        x.selectSubsets(9, 9, 0);
        Tally.same("store() of one more with one object", x.store(), -4);
        for (int i = 0; i < 10; i++) {
            entryIs(i, i % 6, 1, 3, 0);
        }
        Tally.same("clear()", x.clear(), 10);
        Tally.same("store()", x.store(), 0);
    }

    private static void storeWithoutAnObject() {
        for (int family = 0; family < 6; family++) {
            x = Tally.about("promise 23, NOT_AN_OBJECT");
            keep(2, 1, 3, 0);
            select(family, FAMILIES[family]);
            int before = x.put(x.length() - 1, -5);
            Tally.same("store() of family " + family, x.store(), -2);
            archiveIs(1, 6, 2);
            x.put(x.length() - 1, before);
            Tally.same("store() of family " + family + " again", x.store(), 1);
        }
    }

    private static void storeWithSeveralErrors() {
        x = Tally.about("errors, the order of the @return line is the order of the checks; promise 23");
        for (int i = 0; i < 10; i++) {
            x.store();
        }
        x.selectTrees(2);
        x.put(0, 2);
        Tally.same("store() of no object into ten entries", x.store(), -2);
        x.put(0, 1);
        Tally.same("store() of an object into ten entries", x.store(), -4);
        x.clear();
        keep(0, 1, 20, 0);
        x.put(0, 20);
        Tally.same("store() of no object above the greatest total", x.store(), -2);
        x.put(0, 0);
        Tally.same("store() of an object above the greatest total", x.store(), -4);
    }

    // ---- the total

    /** Of the partitions of 14 with parts up to 10 there are 2^7. */
    private static void keepPowerOfTwo(int exponent) {
        for (int i = 0; i < exponent / 7; i++) {
            keep(127, 4, 14, 10);
        }
        if (exponent % 7 > 0) {
            int n = 1 << exponent % 7;
            if (n < 64) {
                keep(n - 1, 0, n, 1, 0);
            } else {
                // Of the partitions of 16 with parts up to 4 there are 2^6.
                keep(63, 4, 16, 4);
            }
        }
        Tally.same("total()", x.total(), 1L << exponent);
        Tally.same("code()", x.code(), (1L << exponent) - 1);
    }

    private static void totalOfExactlyTheGreatest() {
        x = Tally.about("the archive: the total is never above 2^62, but may be 2^62");
        keepPowerOfTwo(62);
        Tally.same("store() of one object more", keep(0, 3, 1), 9);
        archiveIs(10, GREATEST_TOTAL, GREATEST_TOTAL - 1);
        x = Tally.about("the archive: the total is never above 2^62, reached by a family of two objects");
        keepPowerOfTwo(61);
        x.selectSubsets(3, 1, 0);
        Tally.same("store() of three objects", x.store(), -4);
        x.selectPermutations(2, 0);
        Tally.same("store() of two objects", x.store(), 9);
        archiveIs(10, GREATEST_TOTAL, GREATEST_TOTAL - 2);
    }

    private static void totalAboveTheGreatest() {
        x = Tally.about("promise 23, FULL if the total would be above 2^62");
        keepPowerOfTwo(60);
        x.selectSubsets(5, 1, 0);
        Tally.same("store() of 2^60 * 5", x.store(), -4);
        x.selectSubsets(8, 1, 0);
        Tally.same("store() of 2^60 * 8", x.store(), -4);
        x.selectSubsets(7, 1, 0);
        Tally.same("store() of 2^60 * 7", x.store(), -4);
        archiveIs(9, 1L << 60, (1L << 60) - 1);
        x.selectSubsets(4, 1, 0);
        Tally.same("store() of 2^60 * 4", x.store(), 9);
        x = Tally.about("promise 23, FULL if the total would be above 2^62, of 20!");
        keep(5, 1, 20, 0);
        x.selectPermutations(2, 0);
        Tally.same("store() of 20! * 2", x.store(), -4);
        x.selectPermutations(20, 1);
        Tally.same("store() of 20! * 20!", x.store(), -4);
        archiveIs(1, FACTORIAL_20, 5);
    }

    /** Where the product is cut to 64 bits, it is 0 or small: a total that is only looked at then would seem to fit. */
    private static void totalThatWrapsAround() {
        x = Tally.about("promise 23, FULL although the product would wrap around");
        keepPowerOfTwo(56);
        x.selectWords(8, 2);
        Tally.same("count()", x.count(), 1430 * 256);
        Tally.same("store() of 2^56 * 1430 * 2^8", x.store(), -4);
        x.selectWords(20, 2);
        Tally.same("store() of 2^56 * 2^20 and more", x.store(), -4);
        x.selectPermutations(20, 0);
        Tally.same("store() of 2^56 * 20!", x.store(), -4);
        archiveIs(8, 1L << 56, (1L << 56) - 1);
        x = Tally.about("promise 23, FULL although the product would wrap around");
        keepPowerOfTwo(62);
        for (int n = 2; n <= 60; n++) {
            x.selectSubsets(n, 1, 0);
            Tally.same("store() of 2^62 * " + n, x.store(), -4);
        }
        archiveIs(9, GREATEST_TOTAL, GREATEST_TOTAL - 1);
    }

    private static void totalThatStaysWithFamiliesOfOneObject() {
        x = Tally.about("the archive: families of one object leave the total and the code");
        keep(FACTORIAL_20 - 1, 1, 20, 0);
        Tally.same("store()", keep(0, 0, 0, 0, 0), 1);
        Tally.same("store()", keep(0, 0, 60, 60, 2), 2);
        Tally.same("store()", keep(0, 1, 1, 1), 3);
        Tally.same("store()", keep(0, 2, 1, 1), 4);
        Tally.same("store()", keep(0, 3, 1), 5);
        Tally.same("store()", keep(0, 4, 60, 1), 6);
        Tally.same("store()", keep(0, 5, 0, 0, 20, 0), 7);
        archiveIs(8, FACTORIAL_20, FACTORIAL_20 - 1);
        Tally.same("decode(0)", x.decode(0), 1);
        entryIs(0, 0, 1, 20, 0);
    }

    private static void refusedStoresThatFitLater() {
        x = Tally.about("promises 23 and 25, a refused store does not count");
        keep(1, 1, 20, 0);
        x.selectTrees(30);
        Tally.same("store()", x.store(), -4);
        Tally.same("store()", x.store(), -4);
        Tally.same("clear()", x.clear(), 1);
        Tally.same("store()", x.store(), 0);
        archiveIs(1, 3814986502092304L, 0);
    }

    private static void entriesStayWhenTheObjectChanges() {
        x = Tally.about("the archive: an entry consists of a family with its parameters and of an object");
        keep(9, 0, 6, 2, 1);
        x.transform();
        x.unrank(2);
        x.put(0, -1);
        x.selectTrees(4);
        archiveIs(1, 15, 9);
        entryIs(0, 9, 0, 6, 2, 1);
        x.transform();
        entryIs(0, 9, 0, 6, 2, 1);
        keep(3, 3, 4);
        x.toWord();
        entryIs(1, 3, 3, 4);
    }

    // ---- fetch

    private static void fetchOutOfRange() {
        x = Tally.about("promise 24, NO_SUCH_ENTRY");
        for (int entries = 0; entries <= 10; entries++) {
            for (int wrong : new int[] {entries, entries + 1, 10, 11, -1, LEAST, MOST, -entries - 1}) {
                Tally.same("fetch(" + wrong + ") of " + entries, x.fetch(wrong), wrong < entries && wrong >= 0 ? 0 : -5);
            }
            x.store();
        }
        x.clear();
        for (int wrong = -1; wrong <= 10; wrong++) {
            Tally.same("fetch(" + wrong + ") after clear()", x.fetch(wrong), -5);
        }
    }

    private static void fetchOfBothEnds() {
        x = Tally.about("promise 24, entry: the number of the entry; returns the number of the family");
        keepAll();
        entryIs(0, RANKS[0], 0, FAMILIES[0]);
        entryIs(5, RANKS[5], 5, FAMILIES[5]);
        Tally.same("fetch(6)", x.fetch(6), -5);
        Tally.same("fetch(-1)", x.fetch(-1), -5);
        Tally.same("family()", x.family(), 5);
        Tally.same("rank()", x.rank(), RANKS[5]);
    }

    private static void fetchLeavesTheArchive() {
        x = Tally.about("promise 24, the archive stays");
        keepAll();
        for (int family = 0; family < 6; family++) {
            x.fetch(family);
            x.unrank(0);
            archiveIs(6, product(COUNTS), codeOfAll(RANKS));
        }
        Tally.same("store()", x.store(), 6);
    }

    private static void fetchOverTheBuffer() {
        x = Tally.about("promise 24, makes the family of an entry the present one and stores its object");
        keep(3, 1, 3, 0);
        for (int i = 0; i < 60; i++) {
            x.put(i, -1000);
        }
        x.selectSubsets(60, 0, 0);
        Tally.same("fetch(0)", x.fetch(0), 1);
        Tally.elements("fetch(0)", x, 1, 2, 0, -1000, -1000);
        Tally.same("length()", x.length(), 3);
        Tally.same("count()", x.count(), 6);
        keep(0, 0, 4, 0, 1);
        x.selectTrees(3);
        Tally.same("fetch(1)", x.fetch(1), 0);
        Tally.same("length()", x.length(), 0);
        Tally.elements("fetch(1) of length 0", x, 0, 0, 0, -1000);
    }

    // ---- clear, entries, total

    private static void clearOfNoneAndTen() {
        x = Tally.about("promise 25, removes all entries; returns how many there were");
        Tally.same("clear() of none", x.clear(), 0);
        for (int entries = 1; entries <= 10; entries++) {
            x.selectPermutations(3, 0);
            x.unrank(4);
            for (int i = 0; i < entries; i++) {
                Tally.same("store()", x.store(), i);
            }
            Tally.same("clear() of " + entries, x.clear(), entries);
            archiveIs(0, 1, 0);
            Tally.same("clear() again", x.clear(), 0);
            Tally.same("rank() after clear()", x.rank(), 4);
        }
    }

    private static void entriesAndTotal() {
        x = Tally.about("promises 26 and 27, the number of entries and the total");
        long total = 1;
        for (int entries = 0; entries < 10; entries++) {
            Tally.same("entries()", x.entries(), entries);
            Tally.same("total()", x.total(), total);
            keep(0, 0, entries + 2, 1, entries % 3);
            total *= entries + 2;
        }
        archiveIs(10, total, 0);
        x.store();
        x.fetch(10);
        x.decode(-1);
        archiveIs(10, total, 0);
        x.fetch(0);
        x.sort();
        x.decode(total - 1);
        archiveIs(10, total, total - 1);
    }

    // ---- code and decode

    private static void codesOfBothEnds() {
        x = Tally.about("promise 28, the code of first and of last objects");
        for (int family = 0; family < 6; family++) {
            keep(0, family, FAMILIES[family]);
        }
        archiveIs(6, product(COUNTS), 0);
        x.clear();
        for (int family = 0; family < 6; family++) {
            keep(COUNTS[family] - 1, family, FAMILIES[family]);
        }
        archiveIs(6, product(COUNTS), product(COUNTS) - 1);
    }

    private static void codeFromTheFirstEntryOn() {
        x = Tally.about("the archive: going through the entries from the first one on, it is multiplied, and the rank is added");
        keep(1, 0, 5, 1, 0);
        keep(2, 1, 3, 0);
        archiveIs(2, 30, 1 * 6 + 2);
        x.clear();
        keep(2, 1, 3, 0);
        keep(1, 0, 5, 1, 0);
        archiveIs(2, 30, 2 * 5 + 1);
    }

    private static void decodeOutOfRange() {
        x = Tally.about("promise 29, code: 0 to the total minus 1");
        keepAll();
        long total = product(COUNTS);
        for (long wrong : new long[] {-1, total, total + 1, -total, 1L << 31, 1L << 32, (1L << 32) + 1, 1L << 62, Long.MAX_VALUE,
            Long.MIN_VALUE, Long.MIN_VALUE + 1}) {
            Tally.same("decode(" + wrong + ")", x.decode(wrong), -1);
            archiveIs(6, total, codeOfAll(RANKS));
        }
        Tally.same("decode of the last code", x.decode(total - 1), 6);
        Tally.same("decode(0)", x.decode(0), 6);
        x = Tally.about("promise 29, code: 0 to the total minus 1, of the greatest total");
        keepPowerOfTwo(62);
        Tally.same("decode(2^62)", x.decode(GREATEST_TOTAL), -1);
        Tally.same("decode(2^62 - 1)", x.decode(GREATEST_TOTAL - 1), 0);
        Tally.same("decode(0)", x.decode(0), 9);
        Tally.same("decode(2^61)", x.decode(1L << 61), 1);
        entryIs(0, 64, 4, 14, 10);
        archiveIs(9, GREATEST_TOTAL, 1L << 61);
    }

    private static void decodeWithoutEntries() {
        x = Tally.about("promise 29, of no entries, whose total is 1");
        Tally.same("decode(0)", x.decode(0), 0);
        Tally.same("decode(1)", x.decode(1), -1);
        Tally.same("decode(-1)", x.decode(-1), -1);
        archiveIs(0, 1, 0);
        keep(3, 3, 3);
        x.clear();
        Tally.same("decode(0) after clear()", x.decode(0), 0);
        Tally.same("decode(1) after clear()", x.decode(1), -1);
    }

    private static void decodeOfBothEnds() {
        x = Tally.about("promise 29, replaces the objects of all entries, whose families stay");
        keepAll();
        long total = product(COUNTS);
        x.decode(total - 1);
        for (int family = 0; family < 6; family++) {
            entryIs(family, COUNTS[family] - 1, family, FAMILIES[family]);
        }
        x.decode(0);
        for (int family = 0; family < 6; family++) {
            entryIs(family, 0, family, FAMILIES[family]);
        }
        archiveIs(6, total, 0);
    }

    private static void decodeCountsWhatChanges() {
        x = Tally.about("promise 29, returns the number of entries whose objects change");
        keepAll();
        Tally.same("decode of the code that it has", x.decode(codeOfAll(RANKS)), 0);
        Tally.same("decode with another last rank", x.decode(codeOfAll(17, 4, 5, 9, 3, 8)), 1);
        Tally.same("decode with another first rank", x.decode(codeOfAll(16, 4, 5, 9, 3, 8)), 1);
        Tally.same("decode with other ranks but one", x.decode(codeOfAll(0, 0, 0, 9, 0, 0)), 5);
        Tally.same("code()", x.code(), codeOfAll(0, 0, 0, 9, 0, 0));
        x.clear();
        keep(0, 3, 1);
        keep(0, 0, 9, 9, 0);
        keep(1, 1, 2, 0);
        Tally.same("decode(0) of families with one object", x.decode(0), 1);
    }

    private static void decodeCarriesOver() {
        x = Tally.about("promise 29, from the last rank of an entry to the next rank of the one before it");
        keep(0, 1, 3, 0);
        keep(4, 0, 5, 1, 0);
        Tally.same("code()", x.code(), 4);
        Tally.same("decode(5)", x.decode(5), 2);
        entryIs(0, 1, 1, 3, 0);
        entryIs(1, 0, 0, 5, 1, 0);
        for (long code = 0; code < 30; code++) {
            x.decode(code);
            Tally.same("code() after decode(" + code + ")", x.code(), code);
        }
    }

    private static void decodeLeavesTheObject() {
        x = Tally.about("promise 29, the buffer and the present family are not named");
        keep(9, 3, 4);
        keep(5, 1, 3, 0);
        Tally.same("decode(0)", x.decode(0), 2);
        Tally.same("family()", x.family(), 1);
        Tally.elements("decode(0)", x, 2, 1, 0);
        Tally.same("decode(83)", x.decode(83), 2);
        Tally.elements("decode(83)", x, 2, 1, 0);
    }

    // ---- sort

    private static void sortOfNoneAndOne() {
        x = Tally.about("promise 30, 0 if the order does not change: of none and of one");
        Tally.same("sort() of none", x.sort(), 0);
        keep(3, 3, 3);
        Tally.same("sort() of one", x.sort(), 0);
        entryIs(0, 3, 3, 3);
        archiveIs(1, 5, 3);
    }

    /** Two entries that differ in one key: each is {rank, family, parameters}. */
    private static void sortsTwo(int[] less, int[] more) {
        for (int turned = 0; turned <= 1; turned++) {
            x.clear();
            for (int[] e : turned == 0 ? new int[][] {less, more} : new int[][] {more, less}) {
                keep(e[0], e[1], Arrays.copyOfRange(e, 2, e.length));
            }
            Tally.same("entries()", x.entries(), 2);
            Tally.same("sort()", x.sort(), turned);
            entryIs(0, less[0], less[1], Arrays.copyOfRange(less, 2, less.length));
            entryIs(1, more[0], more[1], Arrays.copyOfRange(more, 2, more.length));
            Tally.same("sort() again", x.sort(), 0);
        }
    }

    private static void sortByOneKey() {
        x = Tally.about("promise 30, by the numbers of their families");
        for (int family = 0; family < 5; family++) {
            int[][] least = {{0, 0, 2, 1, 0}, {0, 1, 2, 1}, {0, 2, 2, 1}, {0, 3, 2}, {0, 4, 2, 1}, {0, 5, 2, 1, 0, 0}};
            sortsTwo(least[family], least[family + 1]);
        }
        x = Tally.about("promise 30, by parameter 0");
        sortsTwo(new int[] {1, 0, 9, 2, 1}, new int[] {1, 0, 10, 2, 1});
        sortsTwo(new int[] {1, 1, 9, 1}, new int[] {1, 1, 10, 1});
        sortsTwo(new int[] {1, 2, 9, 1}, new int[] {1, 2, 10, 1});
        sortsTwo(new int[] {1, 3, 9}, new int[] {1, 3, 10});
        sortsTwo(new int[] {1, 4, 9, 5}, new int[] {1, 4, 10, 5});
        sortsTwo(new int[] {1, 5, 9, 1, 1, 1}, new int[] {1, 5, 10, 1, 1, 1});
        x = Tally.about("promise 30, by parameter 1");
        sortsTwo(new int[] {1, 0, 10, 2, 1}, new int[] {1, 0, 10, 3, 1});
        sortsTwo(new int[] {1, 1, 4, 0}, new int[] {1, 1, 4, 1});
        sortsTwo(new int[] {1, 2, 4, 1}, new int[] {1, 2, 4, 2});
        sortsTwo(new int[] {1, 4, 12, 9}, new int[] {1, 4, 12, 10});
        sortsTwo(new int[] {1, 5, 1, 9, 1, 1}, new int[] {1, 5, 1, 10, 1, 1});
        x = Tally.about("promise 30, by parameter 2");
        sortsTwo(new int[] {1, 0, 10, 2, 0}, new int[] {1, 0, 10, 2, 2});
        sortsTwo(new int[] {1, 5, 1, 1, 9, 1}, new int[] {1, 5, 1, 1, 10, 1});
        x = Tally.about("promise 30, by parameter 3");
        sortsTwo(new int[] {1, 5, 1, 1, 1, 9}, new int[] {1, 5, 1, 1, 1, 10});
        x = Tally.about("promise 30, by their ranks");
        sortsTwo(new int[] {9, 1, 4, 1}, new int[] {10, 1, 4, 1});
    }

    private static void sortByTheEarlierKey() {
        x = Tally.about("promise 30, the family before the parameters and the rank");
        sortsTwo(new int[] {23, 1, 4, 1}, new int[] {0, 2, 1, 1});
        x = Tally.about("promise 30, the parameters from parameter 0 on");
        sortsTwo(new int[] {1, 5, 0, 9, 9, 2}, new int[] {0, 5, 1, 0, 0, 1});
        sortsTwo(new int[] {1, 5, 1, 0, 9, 9}, new int[] {0, 5, 1, 1, 0, 1});
        sortsTwo(new int[] {1, 5, 1, 1, 0, 9}, new int[] {0, 5, 1, 1, 1, 0});
        sortsTwo(new int[] {9, 0, 5, 3, 2}, new int[] {1, 0, 6, 2, 0});
        sortsTwo(new int[] {9, 0, 6, 2, 2}, new int[] {1, 0, 6, 3, 0});
        x = Tally.about("promise 30, the parameters before the rank");
        sortsTwo(new int[] {9, 0, 6, 3, 1}, new int[] {1, 0, 6, 3, 2});
        sortsTwo(new int[] {23, 5, 1, 1, 1, 1}, new int[] {0, 5, 1, 1, 1, 2});
    }

    private static void sortOfTen() {
        x = Tally.about("promise 30, of ten entries");
        x.selectPermutations(4, 0);
        for (int i = 0; i < 10; i++) {
            x.unrank(20 - 2 * i);
            x.store();
        }
        Tally.same("sort() of ten in reverse order", x.sort(), 1);
        for (int i = 0; i < 10; i++) {
            entryIs(i, 2 + 2 * i, 1, 4, 0);
        }
        Tally.same("sort() again", x.sort(), 0);
        x.clear();
        for (int rank : new int[] {1, 2, 3, 4, 5, 6, 7, 8, 9, 0}) {
            keep(rank, 1, 4, 0);
        }
        Tally.same("sort() with the least at the end", x.sort(), 1);
        for (int i = 0; i < 10; i++) {
            entryIs(i, i, 1, 4, 0);
        }
        x.clear();
        for (int rank : new int[] {0, 1, 2, 3, 4, 5, 6, 7, 9, 8}) {
            keep(rank, 1, 4, 0);
        }
        Tally.same("sort() with the last two exchanged", x.sort(), 1);
        entryIs(8, 8, 1, 4, 0);
        entryIs(9, 9, 1, 4, 0);
    }

    private static void sortOfEqualEntries() {
        x = Tally.about("promise 30, entries that are equal do not count as exchanged");
        for (int i = 0; i < 10; i++) {
            keep(3, 0, 6, 3, 2);
        }
        Tally.same("sort() of ten that are equal", x.sort(), 0);
        x.clear();
        keep(3, 1, 4, 0);
        keep(3, 1, 4, 0);
        keep(4, 1, 4, 0);
        keep(4, 1, 4, 0);
        Tally.same("sort() of two and two", x.sort(), 0);
        keep(3, 1, 4, 0);
        Tally.same("sort() of two, two and one", x.sort(), 1);
        Tally.same("sort() again", x.sort(), 0);
        entryIs(2, 3, 1, 4, 0);
        entryIs(3, 4, 1, 4, 0);
    }

    /** No families with many more objects than these can have two entries. */
    private static void sortByGreatRanks() {
        x = Tally.about("promise 30, by ranks far apart");
        keep(479001599, 1, 12, 0);
        keep(0, 1, 12, 0);
        Tally.same("sort()", x.sort(), 1);
        entryIs(0, 0, 1, 12, 0);
        entryIs(1, 479001599, 1, 12, 0);
        x.clear();
        long count = Reference.choose(33, 16).longValueExact();
        keep(count - 1, 0, 33, 16, 0);
        keep(1, 0, 33, 16, 0);
        Tally.same("entries()", x.entries(), 2);
        Tally.same("sort()", x.sort(), 1);
        entryIs(0, 1, 0, 33, 16, 0);
        entryIs(1, count - 1, 0, 33, 16, 0);
    }

    private static void sortLeavesTheRest() {
        x = Tally.about("promise 30, sorts the entries and nothing else");
        keep(7, 5, 1, 2, 0, 1);
        keep(9, 3, 4);
        x.selectPermutations(3, 1);
        x.unrank(3);
        Tally.same("sort()", x.sort(), 1);
        Tally.same("family()", x.family(), 1);
        Tally.elements("sort()", x, 2, 1, 0);
        archiveIs(2, 12 * 14, 9 * 12 + 7);
        entryIs(0, 9, 3, 4);
        entryIs(1, 7, 5, 1, 2, 0, 1);
    }
}
