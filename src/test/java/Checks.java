import java.util.Arrays;

/** What the tests share: counting wrong answers, building grammars and words, and looking at a whole object. */
final class Checks {
    static final int A = ConjunctiveParser.TERMINAL_BASE;
    static final int B = A + 1;
    static final int C = A + 2;

    private static int wrong = 0;

    private Checks() {
    }

    static void due(String call, long got, long want) {
        if (got != want) {
            wrong++;
            System.out.println(call + " answered " + got + ", due is " + want);
        }
    }

    static void due(String call, boolean got, boolean want) {
        due(call, got ? 1 : 0, want ? 1 : 0);
    }

    static void due(String call, String got, String want) {
        if (!got.equals(want)) {
            wrong++;
            System.out.println(call + " left or answered\n  " + got + "\ndue is\n  " + want);
        }
    }

    static void end() {
        if (wrong != 0) {
            System.out.println(wrong + " answers are not as due");
            System.exit(1);
        }
    }

    static int[] body(int... symbols) {
        return symbols;
    }

    /** Adds a rule whose conjuncts are given, each as its symbols; every call in it must be taken. */
    static void rule(ConjunctiveParser x, int head, int[]... conjuncts) {
        int number = x.ruleCount();
        due("beginRule(" + head + ")", x.beginRule(head), number);
        for (int k = 0; k < conjuncts.length; k++) {
            if (k > 0) {
                int conjunct = x.conjunctCount();
                due("addConjunct()", x.addConjunct(), conjunct);
            }
            for (int p = 0; p < conjuncts[k].length; p++) {
                due("addSymbol(" + conjuncts[k][p] + ")", x.addSymbol(conjuncts[k][p]), p + 1);
            }
        }
    }

    /** Makes the word anew: 'a' is letter 0, 'b' letter 1, and so on. */
    static void word(ConjunctiveParser x, String letters) {
        x.clearInput();
        for (int p = 0; p < letters.length(); p++) {
            due("addLetter(" + letters.charAt(p) + ")", x.addLetter(letters.charAt(p) - 'a'), p + 1);
        }
    }

    static int parseOf(ConjunctiveParser x, String letters) {
        word(x, letters);
        return x.parse();
    }

    static String counts(ConjunctiveParser x) {
        return x.ruleCount() + " rules, " + x.conjunctCount() + " conjuncts, " + x.symbolCount() + " symbols, "
                + x.inputLength() + " letters, parsed " + x.isParsed();
    }

    /** Everything that can be asked without changing the object. */
    static String view(ConjunctiveParser x) {
        StringBuilder text = new StringBuilder(counts(x));
        for (int a = -1; a <= 8; a++) {
            text.append("; ").append(a).append(": ").append(x.countDerived(a)).append(" of");
            for (int i = 0; i <= x.inputLength(); i++) {
                for (int j = i; j <= x.inputLength(); j++) {
                    text.append(' ').append(x.derives(a, i, j)).append('/').append(x.witnessRule(a, i, j));
                }
            }
        }
        return text.toString();
    }

    /** The grammar of a^n b^n c^n: nonterminal 0 is the intersection of a* b^n c^n and a^n b^n c*. */
    static ConjunctiveParser equalThirds() {
        ConjunctiveParser x = new ConjunctiveParser(5, 3);
        rule(x, 0, body(1, 2), body(4, 3));
        rule(x, 1, body(A, 1));
        rule(x, 1, body());
        rule(x, 2, body(B, 2, C));
        rule(x, 2, body());
        rule(x, 4, body(A, 4, B));
        rule(x, 4, body());
        rule(x, 3, body(C, 3));
        rule(x, 3, body());
        return x;
    }

    static final int[] FAR_INTS = {Integer.MIN_VALUE, Integer.MIN_VALUE + 1, -1000, -16, -2, -1,
        1000, 1 << 16, Integer.MAX_VALUE - 1, Integer.MAX_VALUE};

    /** Every small int from below zero to past all symbols, and some far ones. */
    static int[] manyInts() {
        int[] ints = Arrays.copyOf(FAR_INTS, FAR_INTS.length + 61);
        for (int k = 0; k <= 60; k++) {
            ints[FAR_INTS.length + k] = k - 20;
        }
        return ints;
    }
}
