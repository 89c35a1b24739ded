import java.util.stream.IntStream;

/** Runs the tests sentence by sentence, counts wrong answers, and builds grammars and words. */
final class Checks {
    static final int A = ConjunctiveParser.TERMINAL_BASE;
    static final int B = A + 1;
    static final int C = A + 2;

    private static int sentences = 0;
    private static int broken = 0;
    private static int wrong = 0;

    private Checks() {
    }

    /** Runs the test of one sentence of the document; a throw breaks that sentence and lets the others run. */
    static void sentence(String words, Runnable test) {
        int before = wrong;
        try {
            test.run();
        } catch (RuntimeException | Error thrown) {
            wrong++;
            System.out.println("threw " + thrown);
        }
        sentences++;
        if (wrong != before) {
            broken++;
            System.out.println("BROKEN: " + words);
        }
    }

    static void due(String call, long got, long want) {
        if (got != want) {
            wrong++;
            System.out.println(call + " answered " + got + ", due is " + want);
        }
    }

    static void due(String call, boolean got, boolean want) {
        due(call, got ? 1 : 0, want ? 1 : 0);
    }

    static void due(String call, String got, String want) {
        if (!got.equals(want)) {
            wrong++;
            System.out.println(call + " left or answered\n  " + got + "\ndue is\n  " + want);
        }
    }

    static void end() {
        System.out.println(sentences - broken + " of " + sentences + " sentences hold");
        if (wrong != 0) {
            System.exit(1);
        }
    }

    static int[] body(int... symbols) {
        return symbols;
    }

    /** Adds a rule whose conjuncts are given, each as its symbols; every call in it must be taken. */
    static void rule(ConjunctiveParser x, int head, int[]... conjuncts) {
        int number = x.ruleCount();
        due("beginRule(" + head + ")", x.beginRule(head), number);
        for (int k = 0; k < conjuncts.length; k++) {
            if (k > 0) {
                int conjunct = x.conjunctCount();
                due("addConjunct()", x.addConjunct(), conjunct);
            }
            for (int p = 0; p < conjuncts[k].length; p++) {
                due("addSymbol(" + conjuncts[k][p] + ")", x.addSymbol(conjuncts[k][p]), p + 1);
            }
        }
    }

    /** Makes the word anew: 'a' is letter 0, 'b' letter 1, and so on. */
    static void word(ConjunctiveParser x, String letters) {
        x.clearInput();
        for (int p = 0; p < letters.length(); p++) {
            due("addLetter(" + letters.charAt(p) + ")", x.addLetter(letters.charAt(p) - 'a'), p + 1);
        }
    }

    /** Given B -> b alone, the word's letters are those of a word of a and b, each at its place. */
    static void dueWhereB(ConjunctiveParser x, int b, String letters) {
        for (int p = 0; p < letters.length(); p++) {
            due("letter b at " + p, x.derives(b, p, p + 1), letters.charAt(p) - 'a');
        }
    }

    static int parseOf(ConjunctiveParser x, String letters) {
        word(x, letters);
        return x.parse();
    }

    static String counts(ConjunctiveParser x) {
        return x.ruleCount() + " rules, " + x.conjunctCount() + " conjuncts, " + x.symbolCount() + " symbols, "
                + x.inputLength() + " letters";
    }

    /** All that the stored D answers; refusals too. */
    static String facts(ConjunctiveParser x) {
        StringBuilder text = new StringBuilder();
        for (int a = -1; a <= 8; a++) {
            text.append("; ").append(a).append(": ").append(x.countDerived(a)).append(" of");
            for (int i = 0; i <= x.inputLength(); i++) {
                for (int j = i; j <= x.inputLength(); j++) {
                    text.append(' ').append(x.derives(a, i, j)).append('/').append(x.witnessRule(a, i, j));
                }
            }
        }
        return text.toString();
    }

    /** Everything that can be asked without changing the object. */
    static String view(ConjunctiveParser x) {
        return counts(x) + ", parsed " + x.isParsed() + facts(x);
    }

    /**
     * Small ints on both sides of every bound, and far ones: the ends of int, and those that a shift, a byte,
     * a short or a product with 13 would fold back into the small ones.
     */
    static IntStream ints() {
        IntStream far = IntStream.of(Integer.MIN_VALUE, Integer.MIN_VALUE + 1, Integer.MIN_VALUE + 16,
                -1982292598, -991146299, -65536, -65520, -32768, -1000, -256, -255, -240, -128,
                127, 128, 255, 256, 257, 272, 1000, 32767, 32768, 65535, 65536, 65537, 65552, 1 << 24, 1 << 28,
                1321528399, Integer.MAX_VALUE - 16, Integer.MAX_VALUE - 1, Integer.MAX_VALUE);
        return IntStream.concat(IntStream.rangeClosed(-40, 70), far);
    }

    static int[] below(int bound) {
        return ints().filter(k -> k < bound).toArray();
    }

    static int[] from(int bound) {
        return ints().filter(k -> k >= bound).toArray();
    }
}
