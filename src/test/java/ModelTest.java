import java.util.Arrays;

/** Long runs of calls, made up by a fixed rule, with every answer compared with the model's. */
public final class ModelTest {
    private static final int RUNS = 1500;
    private static final int CALLS = 400;

    private final EnumerativeCoder coder = new EnumerativeCoder();
    private final Model model = new Model();
    private final String name;
    private final boolean small;
    private long state;

    private ModelTest(int run) {
        name = "run " + run;
        small = run % 3 != 0;
        state = run * 7919L + 17;
    }

    public static void main(String[] args) {
        for (int run = 0; run < RUNS; run++) {
            ModelTest test = new ModelTest(run);
            for (int call = 0; call < CALLS; call++) {
                test.call(call);
            }
            for (int i = -1; i <= 60; i++) {
                Tally.same(test.name + " at the end get(" + i + ")", test.coder.get(i), test.model.get(i));
            }
        }
        Tally.end();
    }

    /** From least to greatest, by a multiplicative rule. */
    private int pick(int least, int greatest) {
        state = state * 6364136223846793005L + 1442695040888963407L;
        return least + (int) Long.remainderUnsigned(state >>> 20, (long) greatest - least + 1);
    }

    private long pickLong() {
        return (long) pick(Integer.MIN_VALUE, Integer.MAX_VALUE) << 32 ^ pick(Integer.MIN_VALUE, Integer.MAX_VALUE);
    }

    private void select(String where) {
        int family = pick(0, 5);
        int reach = small ? 5 : 64;
        int[] p = {pick(0, reach), pick(0, 2), 0, 0};
        if (family == 0) {
            p = new int[] {p[0], pick(pick(0, 9) == 0 ? -1 : 0, p[0]), pick(0, pick(0, 9) == 0 ? 3 : 2), 0};
        } else if (family == 4) {
            p[1] = pick(0, 5) == 0 ? pick(-1, reach) : pick(1, Math.max(1, p[0]));
        } else if (family == 5) {
            int most = small ? 2 : 7;
            p = new int[] {pick(0, most), pick(0, most), pick(0, most), pick(pick(0, 9) == 0 ? -1 : 0, most)};
        } else {
            p[0] = pick(0, small ? 5 : family == 3 ? 31 : 21);
        }
        String what = where + "select " + family + " " + Arrays.toString(p);
        Tally.same(what, ListsTest.select(coder, family, p), model.select(family, p));
    }

    private void call(int number) {
        String where = name + " call " + number + " ";
        int kind = pick(0, 39);
        if (kind < 4) {
            select(where);
        } else if (kind < 16) {
            rankCall(where, kind - 4);
        } else if (kind < 28) {
            objectCall(where, kind - 16);
        } else {
            archiveCall(where, kind - 28);
        }
    }

    private void rankCall(String where, int kind) {
        long seed = pickLong();
        int by = pick(0, 3) == 0 ? pick(-1000002, 1000002) : pick(-3, 3);
        long rank = kind == 0 ? seed : kind < 3 ? pick(-1, 2) : Math.floorMod(seed, model.count() + (kind == 3 ? 1 : 0));
        if (kind < 5) {
            Tally.same(where + "unrank(" + rank + ")", coder.unrank(rank), model.unrank(rank));
        } else if (kind < 7) {
            Tally.same(where + "step(" + by + ")", coder.step(by), model.step(by));
        } else if (kind < 10) {
            Tally.same(where + "draw(" + seed + ")", coder.draw(seed), model.draw(seed));
        } else {
            Tally.same(where + "rank()", coder.rank(), model.rank());
        }
    }

    private void objectCall(String where, int kind) {
        int i = pick(0, 9) == 0 ? pick(-2, 61) : pick(0, Math.max(0, Math.min(59, model.length())));
        int value = pick(0, 9) == 0 ? pick(-1002, 1002) : pick(0, 4);
        switch (kind) {
            case 0: Tally.same(where + "put(" + i + ", " + value + ")", coder.put(i, value), model.put(i, value)); break;
            case 1: Tally.same(where + "isObject()", coder.isObject(), model.isObject()); break;
            case 2:
            case 3:
            case 4: Tally.same(where + "transform()", coder.transform(), model.transform()); break;
            case 5: Tally.same(where + "toWord()", coder.toWord(), model.toWord()); break;
            case 6: Tally.same(where + "toTree()", coder.toTree(), model.toTree()); break;
            case 7: Tally.same(where + "descents()", coder.descents(), model.descents()); break;
            case 8: Tally.same(where + "parameter(" + i + ")", coder.parameter(i % 6), model.parameter(i % 6)); break;
            case 9: Tally.same(where + "length()", coder.length(), model.length()); break;
            case 10: Tally.same(where + "count()", coder.count(), model.count()); break;
            default: Tally.same(where + "get(" + i + ")", coder.get(i), model.get(i));
        }
    }

    private void archiveCall(String where, int kind) {
        int entry = pick(-1, 10);
        long seed = pickLong();
        long code = kind == 5 ? seed : Math.floorMod(seed, model.total() + (kind == 6 ? 1 : 0));
        switch (kind) {
            case 0:
            case 1:
            case 2: Tally.same(where + "store()", coder.store(), model.store()); break;
            case 3:
            case 4: Tally.same(where + "fetch(" + entry + ")", coder.fetch(entry), model.fetch(entry)); break;
            case 5:
            case 6:
            case 7: Tally.same(where + "decode(" + code + ")", coder.decode(code), model.decode(code)); break;
            case 8: Tally.same(where + "code()", coder.code(), model.code()); break;
            case 9: Tally.same(where + "sort()", coder.sort(), model.sort()); break;
            case 10: Tally.same(where + "total()", coder.total(), model.total()); break;
            default:
                Tally.same(where + "entries()", coder.entries(), model.entries());
                Tally.same(where + "family()", coder.family(), model.family());
                if (pick(0, 7) == 0) {
                    Tally.same(where + "clear()", coder.clear(), model.clear());
                }
        }
    }
}
