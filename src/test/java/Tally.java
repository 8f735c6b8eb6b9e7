import java.util.Arrays;

/** Compares answers with the ones that are due and ends the program accordingly. */
final class Tally {
    private static final int SHOWN = 40;
    private static int compared = 0;
    private static int wrong = 0;
    private static String sentence = "";

    private Tally() {
    }

    /** Names the sentence of the document that the next comparisons test, and gives a coder for them. */
    static EnumerativeCoder about(String tested) {
        sentence = tested + ": ";
        return new EnumerativeCoder();
    }

    static void same(String what, long got, long want) {
        compared++;
        if (got != want) {
            complain(what + " answered " + got + ", due is " + want);
        }
    }

    static void holds(String what, boolean condition) {
        compared++;
        if (!condition) {
            complain(what + " does not hold");
        }
    }

    /** Compares the first places of the buffer. */
    static void elements(String what, EnumerativeCoder coder, int... want) {
        int[] got = elementsOf(coder, want.length);
        compared++;
        if (!Arrays.equals(got, want)) {
            complain(what + " left " + Arrays.toString(got) + ", due is " + Arrays.toString(want));
        }
    }

    static int[] elementsOf(EnumerativeCoder coder, int length) {
        int[] elements = new int[length];
        for (int i = 0; i < length; i++) {
            elements[i] = coder.get(i);
        }
        return elements;
    }

    static void fill(EnumerativeCoder coder, int... elements) {
        for (int i = 0; i < elements.length; i++) {
            coder.put(i, elements[i]);
        }
    }

    private static void complain(String text) {
        wrong++;
        if (wrong <= SHOWN) {
            System.out.println(sentence + text);
        }
    }

    static void end() {
        System.out.println(compared + " comparisons, " + wrong + " wrong");
        if (wrong != 0) {
            System.exit(1);
        }
    }
}
