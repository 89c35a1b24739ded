/** Objects that stand at an edge, not parsed unless they say so, with a word that their rules tell apart. */
final class States {
    private static final int A = Checks.A;
    private static final int B = Checks.B;
    private static final int C = Checks.C;

    private States() {
    }

    /** The grammar of a^n b^n c^n: nonterminal 0 is the intersection of a* b^n c^n and a^n b^n c*. */
    static ConjunctiveParser equalThirds() {
        ConjunctiveParser x = new ConjunctiveParser(5, 3);
        Checks.rule(x, 0, Checks.body(1, 2), Checks.body(4, 3));
        Checks.rule(x, 1, Checks.body(A, 1));
        Checks.rule(x, 1, Checks.body());
        Checks.rule(x, 2, Checks.body(B, 2, C));
        Checks.rule(x, 2, Checks.body());
        Checks.rule(x, 4, Checks.body(A, 4, B));
        Checks.rule(x, 4, Checks.body());
        Checks.rule(x, 3, Checks.body(C, 3));
        Checks.rule(x, 3, Checks.body());
        Checks.word(x, "aabbcc");
        return x;
    }

    /** Three rules, of which the open one is B -> SC & ab with its second conjunct open; each limit is far. */
    static ConjunctiveParser ordinary() {
        ConjunctiveParser x = new ConjunctiveParser(3, 2);
        Checks.rule(x, 0, Checks.body(A));
        Checks.rule(x, 2, Checks.body(B));
        Checks.rule(x, 1, Checks.body(0, 2), Checks.body(A, B));
        Checks.word(x, "abab");
        return x;
    }

    static ConjunctiveParser noRules() {
        ConjunctiveParser x = new ConjunctiveParser(3, 2);
        Checks.word(x, "abab");
        return x;
    }

    static ConjunctiveParser clearedGrammar() {
        ConjunctiveParser x = ordinary();
        x.clearGrammar();
        return x;
    }

    /** MAX_RULES rules, and no other limit reached. */
    static ConjunctiveParser fullOfRules() {
        ConjunctiveParser x = new ConjunctiveParser(3, 2);
        for (int r = 0; r < 16; r++) {
            Checks.rule(x, r % 3, Checks.body(r % 2 == 0 ? A : B));
        }
        Checks.word(x, "abab");
        return x;
    }

    /** MAX_CONJUNCTS conjuncts in two rules, and no other limit reached. */
    static ConjunctiveParser fullOfConjuncts() {
        ConjunctiveParser x = new ConjunctiveParser(3, 2);
        Checks.rule(x, 0, equalBodies(16, Checks.body(A)));
        Checks.rule(x, 1, equalBodies(16, Checks.body(B)));
        Checks.word(x, "abab");
        return x;
    }

    /** MAX_SYMBOLS symbols, the open conjunct having one of them, and no other limit reached. */
    static ConjunctiveParser fullOfSymbols() {
        ConjunctiveParser x = new ConjunctiveParser(3, 2);
        Checks.rule(x, 0, equalBodies(10, Checks.body(A, A, B)));
        Checks.rule(x, 1, equalBodies(11, Checks.body(A, B, B)));
        Checks.rule(x, 2, Checks.body(B));
        Checks.word(x, "aabb");
        return x;
    }

    /** An open conjunct of MAX_BODY symbols, and no other limit reached. */
    static ConjunctiveParser fullBody() {
        ConjunctiveParser x = new ConjunctiveParser(3, 2);
        Checks.rule(x, 1, Checks.body(A));
        Checks.rule(x, 0, Checks.body(1, B, 1, B));
        Checks.word(x, "abab");
        return x;
    }

    /** A word of MAX_INPUT letters. */
    static ConjunctiveParser fullWord() {
        ConjunctiveParser x = ordinary();
        Checks.word(x, "aabbabababba");
        return x;
    }

    /** Every limit reached: 16 rules, 32 conjuncts, 64 symbols, 12 letters. */
    static ConjunctiveParser fullOfAll() {
        ConjunctiveParser x = new ConjunctiveParser(8, 8);
        for (int a = 0; a < 8; a++) {
            Checks.rule(x, a, equalBodies(2, Checks.body(A + a)));
        }
        for (int a = 0; a < 8; a++) {
            Checks.rule(x, a, equalBodies(2, Checks.body(A + a, (a + 1) % 8, (a + 2) % 8)));
        }
        Checks.word(x, "abcdefghabcd");
        return x;
    }

    /** Parsed: each of n nonterminals a derives every piece of the word, by rule 2a, or 2a + 1 if it is empty. */
    static ConjunctiveParser everyPiece(int n, int letters) {
        ConjunctiveParser x = new ConjunctiveParser(n, 1);
        for (int a = 0; a < n; a++) {
            Checks.rule(x, a, Checks.body(A, a));
            Checks.rule(x, a, Checks.body());
        }
        Checks.parseOf(x, "a".repeat(letters));
        return x;
    }

    static int[][] equalBodies(int count, int[] body) {
        int[][] bodies = new int[count][];
        for (int k = 0; k < count; k++) {
            bodies[k] = body;
        }
        return bodies;
    }
}
