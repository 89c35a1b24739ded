import java.util.function.Consumer;

/** Promise 11: countDerived. */
public final class CountDerivedTest {
    public static void main(String[] args) {
        Checks.sentence("1. never parsed -> REFUSED", CountDerivedTest::neverParsed);
        Checks.sentence("1. parsed before a change -> REFUSED", CountDerivedTest::parsedBeforeChange);
        Checks.sentence("2. a < 0 -> REFUSED", CountDerivedTest::nonterminalTooSmall);
        Checks.sentence("2. a >= N -> REFUSED", CountDerivedTest::nonterminalTooLarge);
        Checks.sentence("2. a in 0..N-1 is answered", CountDerivedTest::nonterminals);
        Checks.sentence("both tests at once -> REFUSED", CountDerivedTest::bothAtOnce);
        Checks.sentence("it answers the number of pairs (i, j) in D", CountDerivedTest::pairs);
        Checks.sentence("the least answer is 0", CountDerivedTest::none);
        Checks.sentence("the empty pieces count, at positions 0..n", CountDerivedTest::emptyPieces);
        Checks.sentence("the greatest answer is (n+1)(n+2)/2, at most 91", CountDerivedTest::most);
        Checks.sentence("only the current word's pieces count", CountDerivedTest::shorterWord);
        Checks.sentence("after a refused change it answers from the stored D", CountDerivedTest::afterRefusedCalls);
        Checks.sentence("it changes nothing, when it answers", () -> unchanged(1));
        Checks.sentence("it changes nothing, when a is too small", () -> unchanged(-1));
        Checks.sentence("it changes nothing, when a is too large", () -> unchanged(3));
        Checks.end();
    }

    private static void unchanged(int a) {
        Unchanged.by("countDerived(" + a + ")", States::ordinary, x -> x.countDerived(a));
    }

    private static void neverParsed() {
        Checks.due("a new object", new ConjunctiveParser(1, 1).countDerived(0), -1);
        Checks.due("rules and a word", States.ordinary().countDerived(0), -1);
    }

    private static void parsedBeforeChange() {
        Checks.due("after beginRule", changed(x -> x.beginRule(0)), -1);
        Checks.due("after addConjunct", changed(ConjunctiveParser::addConjunct), -1);
        Checks.due("after addSymbol", changed(x -> x.addSymbol(0)), -1);
        Checks.due("after clearGrammar", changed(ConjunctiveParser::clearGrammar), -1);
        Checks.due("after addLetter", changed(x -> x.addLetter(0)), -1);
        Checks.due("after clearInput", changed(ConjunctiveParser::clearInput), -1);
    }

    private static int changed(Consumer<ConjunctiveParser> change) {
        ConjunctiveParser x = States.everyPiece(1, 3);
        change.accept(x);
        return x.countDerived(0);
    }

    private static void nonterminalTooSmall() {
        for (int n = 1; n <= 8; n++) {
            ConjunctiveParser x = States.everyPiece(n, 3);
            for (int a : Checks.below(0)) {
                Checks.due("N = " + n + ", countDerived(" + a + ")", x.countDerived(a), -1);
            }
        }
    }

    private static void nonterminalTooLarge() {
        for (int n = 1; n <= 8; n++) {
            ConjunctiveParser x = States.everyPiece(n, 3);
            for (int a : Checks.from(n)) {
                Checks.due("N = " + n + ", countDerived(" + a + ")", x.countDerived(a), -1);
            }
        }
    }

    private static void nonterminals() {
        for (int n = 1; n <= 8; n++) {
            ConjunctiveParser x = States.everyPiece(n, 3);
            for (int a = 0; a < n; a++) {
                Checks.due("N = " + n + ", countDerived(" + a + ")", x.countDerived(a), 10);
            }
        }
    }

    private static void bothAtOnce() {
        for (int a : new int[] {Integer.MIN_VALUE, -1, 3, Integer.MAX_VALUE}) {
            Checks.due("countDerived(" + a + ") before parse()", States.ordinary().countDerived(a), -1);
        }
    }

    private static void pairs() {
        ConjunctiveParser x = States.equalThirds();
        x.parse();
        Checks.due("countDerived(0): nothing seven times, aabbcc", x.countDerived(0), 8);
        Checks.due("countDerived(1): nothing seven times, a, a, aa", x.countDerived(1), 10);
        Checks.due("countDerived(2): nothing seven times, bc, bbcc", x.countDerived(2), 9);
    }

    private static void none() {
        ConjunctiveParser x = new ConjunctiveParser(2, 2);
        Checks.rule(x, 0, Checks.body(Checks.B));
        x.parse();
        Checks.due("countDerived(0) of no letter", x.countDerived(0), 0);
        Checks.parseOf(x, "aaaaaaaaaaaa");
        Checks.due("countDerived(0) of twelve others", x.countDerived(0), 0);
        Checks.due("countDerived(1) without a rule", x.countDerived(1), 0);
    }

    private static void emptyPieces() {
        for (int n = 0; n <= 12; n++) {
            ConjunctiveParser x = new ConjunctiveParser(1, 1);
            x.beginRule(0);
            Checks.parseOf(x, "a".repeat(n));
            Checks.due("n = " + n + ", countDerived(0)", x.countDerived(0), n + 1);
        }
    }

    private static void most() {
        for (int n = 0; n <= 12; n++) {
            ConjunctiveParser x = States.everyPiece(8, n);
            for (int a = 0; a < 8; a++) {
                Checks.due("n = " + n + ", countDerived(" + a + ")", x.countDerived(a), (n + 1) * (n + 2) / 2);
            }
        }
    }

    private static void shorterWord() {
        ConjunctiveParser x = States.everyPiece(1, 12);
        Checks.parseOf(x, "aa");
        Checks.due("countDerived(0) of two letters", x.countDerived(0), 6);
    }

    private static void afterRefusedCalls() {
        ConjunctiveParser x = States.everyPiece(1, 3);
        x.beginRule(1);
        x.addSymbol(1);
        x.addLetter(1);
        Checks.due("countDerived(0)", x.countDerived(0), 10);
    }
}
