/** The sections Grammar, Input and Meaning, as far as parse() and derives(...) show them. */
public final class MeaningTest {
    private static final int A = Checks.A;
    private static final int B = Checks.B;

    public static void main(String[] args) {
        Checks.sentence("nonterminal 0 is the start symbol", MeaningTest::startSymbol);
        Checks.sentence("a conjunct may be the empty sequence", MeaningTest::emptySequence);
        Checks.sentence("a conjunct may have MAX_BODY symbols", MeaningTest::longestSequence);
        Checks.sentence("the empty conjunct matches [i, i), at every position 0..n", MeaningTest::emptyMatchesEmpty);
        Checks.sentence("the empty conjunct matches no [i, j) with i < j", MeaningTest::emptyMatchesNothingElse);
        Checks.sentence("a letter takes one position", MeaningTest::letterTakesOne);
        Checks.sentence("a letter matches no empty piece, also at the word's end", MeaningTest::letterNotEmpty);
        Checks.sentence("a letter matches at the first and at the last position", MeaningTest::letterAtTheEdges);
        Checks.sentence("a nonterminal may take an empty piece", MeaningTest::nonterminalTakesNone);
        Checks.sentence("a nonterminal may take the whole word", MeaningTest::nonterminalTakesAll);
        Checks.sentence("some split suffices, not the first or the longest alone", MeaningTest::anySplit);
        Checks.sentence("every conjunct of the rule must match", MeaningTest::everyConjunct);
        Checks.sentence("all conjuncts must match the same piece", MeaningTest::samePiece);
        Checks.sentence("each conjunct may split the piece in its own way", MeaningTest::ownSplit);
        Checks.sentence("one of several rules suffices", MeaningTest::anyRule);
        Checks.sentence("A -> A & a gives A nothing", MeaningTest::headAndLetter);
        Checks.sentence("D is least: rules in a circle give nothing", MeaningTest::circle);
        Checks.sentence("D is closed: trees of the greatest height count", MeaningTest::highestTree);
        Checks.sentence("a nonterminal without rules derives nothing", MeaningTest::noRuleOfItsOwn);
        Checks.end();
    }

    private static void startSymbol() {
        for (int a = 0; a < 8; a++) {
            ConjunctiveParser x = new ConjunctiveParser(8, 1);
            Checks.rule(x, a, Checks.body(A));
            Checks.due("head " + a + " on a", Checks.parseOf(x, "a"), a == 0 ? 1 : 0);
        }
    }

    private static void emptySequence() {
        ConjunctiveParser x = new ConjunctiveParser(1, 1);
        Checks.rule(x, 0, Checks.body(), Checks.body());
        Checks.due("symbolCount()", x.symbolCount(), 0);
        Checks.due("parse()", x.parse(), 1);
    }

    private static void longestSequence() {
        ConjunctiveParser x = new ConjunctiveParser(2, 2);
        Checks.rule(x, 0, Checks.body(1, A, 1, B));
        Checks.rule(x, 1, Checks.body());
        Checks.rule(x, 1, Checks.body(B));
        for (String letters : new String[] {"ab", "bab", "babb", "abb"}) {
            Checks.due("parse of " + letters, Checks.parseOf(x, letters), 1);
        }
        for (String letters : new String[] {"abbb", "ba", "aab", "bbab", "b", ""}) {
            Checks.due("parse of '" + letters + "'", Checks.parseOf(x, letters), 0);
        }
    }

    private static ConjunctiveParser emptyOnLongestWord() {
        ConjunctiveParser x = new ConjunctiveParser(1, 2);
        x.beginRule(0);
        Checks.parseOf(x, "abababababab");
        return x;
    }

    private static void emptyMatchesEmpty() {
        ConjunctiveParser x = emptyOnLongestWord();
        for (int i = 0; i <= 12; i++) {
            Checks.due("derives(0, " + i + ", " + i + ")", x.derives(0, i, i), 1);
        }
    }

    private static void emptyMatchesNothingElse() {
        ConjunctiveParser x = emptyOnLongestWord();
        for (int i = 0; i <= 12; i++) {
            for (int j = i + 1; j <= 12; j++) {
                Checks.due("derives(0, " + i + ", " + j + ")", x.derives(0, i, j), 0);
            }
        }
    }

    private static ConjunctiveParser letterOnLongestWord() {
        ConjunctiveParser x = new ConjunctiveParser(1, 1);
        Checks.rule(x, 0, Checks.body(A));
        Checks.parseOf(x, "aaaaaaaaaaaa");
        return x;
    }

    private static void letterTakesOne() {
        ConjunctiveParser x = letterOnLongestWord();
        for (int i = 0; i <= 12; i++) {
            for (int j = i + 1; j <= 12; j++) {
                Checks.due("derives(0, " + i + ", " + j + ")", x.derives(0, i, j), j == i + 1 ? 1 : 0);
            }
        }
    }

    private static void letterNotEmpty() {
        ConjunctiveParser x = letterOnLongestWord();
        for (int i = 0; i <= 12; i++) {
            Checks.due("derives(0, " + i + ", " + i + ")", x.derives(0, i, i), 0);
        }
        Checks.parseOf(x, "aa");
        Checks.due("derives(0, 2, 2)", x.derives(0, 2, 2), 0);
        Checks.due("countDerived(0) of a shorter word", x.countDerived(0), 2);
    }

    private static void letterAtTheEdges() {
        ConjunctiveParser x = new ConjunctiveParser(1, 2);
        Checks.rule(x, 0, Checks.body(B));
        Checks.parseOf(x, "baaaaaaaaaab");
        Checks.due("derives(0, 0, 1)", x.derives(0, 0, 1), 1);
        Checks.due("derives(0, 11, 12)", x.derives(0, 11, 12), 1);
        Checks.due("countDerived(0)", x.countDerived(0), 2);
    }

    private static void nonterminalTakesNone() {
        ConjunctiveParser x = new ConjunctiveParser(2, 1);
        Checks.rule(x, 0, Checks.body(1, 1, A, 1));
        Checks.rule(x, 1, Checks.body());
        Checks.due("BBaB, B empty, on a", Checks.parseOf(x, "a"), 1);
        Checks.due("BBaB, B empty, on aa", Checks.parseOf(x, "aa"), 0);
    }

    private static void nonterminalTakesAll() {
        ConjunctiveParser x = new ConjunctiveParser(3, 1);
        Checks.rule(x, 1, Checks.body(A, 1));
        Checks.rule(x, 1, Checks.body(A));
        Checks.rule(x, 2, Checks.body());
        Checks.rule(x, 0, Checks.body(2, 1, 2));
        Checks.due("CBC, C empty, on twelve letters", Checks.parseOf(x, "aaaaaaaaaaaa"), 1);
    }

    private static void anySplit() {
        ConjunctiveParser x = new ConjunctiveParser(2, 1);
        Checks.rule(x, 0, Checks.body(1, 1, A, 1));
        Checks.rule(x, 1, Checks.body(A));
        Checks.rule(x, 1, Checks.body(A, A, A));
        for (int n = 0; n <= 12; n++) {
            int want = n == 4 || n == 6 || n == 8 || n == 10 ? 1 : 0;
            Checks.due("BBaB, B of 1 or 3, on " + n, Checks.parseOf(x, "a".repeat(n)), want);
        }
    }

    private static void everyConjunct() {
        for (int odd = 0; odd < 5; odd++) {
            ConjunctiveParser x = new ConjunctiveParser(1, 2);
            int[][] bodies = States.equalBodies(5, Checks.body(A));
            bodies[odd] = Checks.body(B);
            Checks.rule(x, 0, bodies);
            Checks.due("conjunct " + odd + " alone is b, on a", Checks.parseOf(x, "a"), 0);
            Checks.due("conjunct " + odd + " alone is b, on b", Checks.parseOf(x, "b"), 0);
        }
        ConjunctiveParser x = new ConjunctiveParser(1, 2);
        Checks.rule(x, 0, States.equalBodies(5, Checks.body(A)));
        Checks.due("five times a, on a", Checks.parseOf(x, "a"), 1);
    }

    private static void samePiece() {
        ConjunctiveParser x = new ConjunctiveParser(1, 2);
        Checks.rule(x, 0, Checks.body(A, B), Checks.body(A));
        Checks.rule(x, 0, Checks.body(A, B), Checks.body(B));
        Checks.due("ab & a, ab & b, on ab", Checks.parseOf(x, "ab"), 0);
        Checks.due("countDerived(0)", x.countDerived(0), 0);
    }

    private static void ownSplit() {
        ConjunctiveParser x = new ConjunctiveParser(3, 2);
        Checks.rule(x, 0, Checks.body(1, 2), Checks.body(2, 1));
        Checks.rule(x, 1, Checks.body(A));
        Checks.rule(x, 1, Checks.body(A, A));
        Checks.rule(x, 2, Checks.body(A));
        Checks.rule(x, 2, Checks.body(A, B, A));
        Checks.due("parse of aaa: aa a and a aa", Checks.parseOf(x, "aaa"), 1);
        Checks.due("parse of aaba: the first conjunct alone", Checks.parseOf(x, "aaba"), 0);
        Checks.due("parse of abaa: the second alone", Checks.parseOf(x, "abaa"), 0);
    }

    private static void anyRule() {
        ConjunctiveParser x = new ConjunctiveParser(1, 2);
        Checks.rule(x, 0, Checks.body(A));
        Checks.rule(x, 0, Checks.body(B));
        Checks.due("a or b, on a", Checks.parseOf(x, "a"), 1);
        Checks.due("a or b, on b", Checks.parseOf(x, "b"), 1);
    }

    private static void headAndLetter() {
        ConjunctiveParser x = new ConjunctiveParser(1, 1);
        Checks.rule(x, 0, Checks.body(0), Checks.body(A));
        Checks.due("parse of a", Checks.parseOf(x, "a"), 0);
        Checks.due("countDerived(0)", x.countDerived(0), 0);
    }

    private static void circle() {
        ConjunctiveParser x = new ConjunctiveParser(3, 1);
        Checks.rule(x, 0, Checks.body(1));
        Checks.rule(x, 1, Checks.body(2, 2));
        Checks.rule(x, 2, Checks.body(0));
        Checks.rule(x, 2, Checks.body(2));
        Checks.parseOf(x, "aa");
        for (int a = 0; a < 3; a++) {
            Checks.due("countDerived(" + a + ")", x.countDerived(a), 0);
        }
    }

    /** Each letter more needs a walk through all eight nonterminals: the tree of the word is 104 high. */
    private static void highestTree() {
        for (boolean backwards : new boolean[] {false, true}) {
            ConjunctiveParser x = new ConjunctiveParser(8, 1);
            for (int k = 0; k < 7; k++) {
                int a = backwards ? 6 - k : k;
                Checks.rule(x, a, Checks.body(a + 1));
            }
            Checks.rule(x, 7, Checks.body(A, 0));
            Checks.rule(x, 7, Checks.body());
            Checks.due("parse of twelve letters", Checks.parseOf(x, "aaaaaaaaaaaa"), 1);
            for (int a = 0; a < 8; a++) {
                Checks.due("countDerived(" + a + ")", x.countDerived(a), 91);
            }
        }
    }

    private static void noRuleOfItsOwn() {
        ConjunctiveParser x = new ConjunctiveParser(2, 1);
        Checks.rule(x, 0, Checks.body(1));
        Checks.rule(x, 0, Checks.body(A, 1));
        Checks.parseOf(x, "a");
        Checks.due("countDerived(1)", x.countDerived(1), 0);
        Checks.due("countDerived(0)", x.countDerived(0), 0);
    }
}
