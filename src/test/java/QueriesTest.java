/** Promises 9, 10 and 11. */
public final class QueriesTest {
    public static void main(String[] args) {
        notParsed();
        wrongArguments();
        smallWord();
        leastWitness();
        witnessFirstFoundIsNotLeast();
        mostPieces();
        changeNothing();
        Checks.end();
    }

    private static void allRefused(String when, ConjunctiveParser x) {
        Checks.due(when + ", derives", x.derives(0, 0, 0), -1);
        Checks.due(when + ", witnessRule", x.witnessRule(0, 0, 0), -1);
        Checks.due(when + ", countDerived", x.countDerived(0), -1);
    }

    private static void notParsed() {
        ConjunctiveParser x = new ConjunctiveParser(2, 2);
        allRefused("new", x);
        Checks.rule(x, 0, Checks.body());
        allRefused("before parse()", x);
        x.parse();
        Checks.due("derives", x.derives(0, 0, 0), 1);
        Checks.due("witnessRule", x.witnessRule(0, 0, 0), 0);
        Checks.due("countDerived", x.countDerived(0), 1);
        x.addLetter(0);
        allRefused("after addLetter", x);
        x.parse();
        x.addSymbol(0);
        allRefused("after addSymbol", x);
        x.parse();
        x.addConjunct();
        allRefused("after addConjunct", x);
        x.parse();
        x.beginRule(1);
        allRefused("after beginRule", x);
        x.parse();
        x.clearInput();
        allRefused("after clearInput", x);
        x.parse();
        x.clearGrammar();
        allRefused("after clearGrammar", x);
    }

    private static void wrongArguments() {
        for (int n = 1; n <= 8; n++) {
            ConjunctiveParser x = new ConjunctiveParser(n, 1);
            for (int a = 0; a < n; a++) {
                Checks.rule(x, a, Checks.body());
                Checks.rule(x, a, Checks.body(Checks.A, a));
            }
            Checks.parseOf(x, "aaa");
            for (int a : Checks.manyInts()) {
                boolean right = a >= 0 && a < n;
                String at = "N = " + n + ", (" + a + ", 1, 2)";
                Checks.due("derives" + at, x.derives(a, 1, 2), right ? 1 : -1);
                Checks.due("witnessRule" + at, x.witnessRule(a, 1, 2), right ? 2 * a + 1 : -1);
                Checks.due("countDerived" + at, x.countDerived(a), right ? 10 : -1);
            }
        }
        ConjunctiveParser x = new ConjunctiveParser(1, 1);
        Checks.rule(x, 0, Checks.body(Checks.A, 0));
        Checks.rule(x, 0, Checks.body());
        for (String letters : new String[] {"", "a", "aaa", "aaaaaaaaaaaa"}) {
            Checks.parseOf(x, letters);
            for (int i : Checks.manyInts()) {
                for (int j : Checks.manyInts()) {
                    boolean right = i >= 0 && j <= letters.length() && i <= j;
                    String at = "(0, " + i + ", " + j + ") of " + letters.length();
                    Checks.due("derives" + at, x.derives(0, i, j), right ? 1 : -1);
                    Checks.due("witnessRule" + at, x.witnessRule(0, i, j), right ? (i < j ? 0 : 1) : -1);
                }
            }
        }
    }

    private static void smallWord() {
        ConjunctiveParser x = Checks.equalThirds();
        Checks.due("parse of abc", Checks.parseOf(x, "abc"), 1);
        for (int i = 0; i <= 3; i++) {
            for (int j = i; j <= 3; j++) {
                boolean fact = i == j || i == 0 && j == 3;
                Checks.due("derives(0, " + i + ", " + j + ")", x.derives(0, i, j), fact ? 1 : 0);
                Checks.due("witnessRule(0, " + i + ", " + j + ")", x.witnessRule(0, i, j), fact ? 0 : -1);
                boolean as = i == j || i == 0 && j == 1;
                Checks.due("derives(1, " + i + ", " + j + ")", x.derives(1, i, j), as ? 1 : 0);
                Checks.due("witnessRule(1, " + i + ", " + j + ")", x.witnessRule(1, i, j), as ? (i < j ? 1 : 2) : -1);
            }
        }
        Checks.due("countDerived(0)", x.countDerived(0), 5);
        Checks.due("countDerived(1)", x.countDerived(1), 5);
        Checks.due("countDerived(2)", x.countDerived(2), 5);
    }

    private static void leastWitness() {
        ConjunctiveParser x = new ConjunctiveParser(3, 2);
        Checks.rule(x, 1, Checks.body(Checks.A));
        Checks.rule(x, 0, Checks.body(Checks.B));
        Checks.rule(x, 0, Checks.body(Checks.A), Checks.body(Checks.B));
        Checks.rule(x, 0, Checks.body(1));
        Checks.rule(x, 0, Checks.body(Checks.A));
        Checks.rule(x, 2, Checks.body(0, 0));
        Checks.rule(x, 2, Checks.body(Checks.A, Checks.B));
        Checks.parseOf(x, "ab");
        Checks.due("another head's rule is no witness", x.witnessRule(0, 0, 1), 3);
        Checks.due("witnessRule(0, 1, 2)", x.witnessRule(0, 1, 2), 1);
        Checks.due("rule number 0", x.witnessRule(1, 0, 1), 0);
        Checks.due("the lesser of two", x.witnessRule(2, 0, 2), 5);
        Checks.due("no fact", x.witnessRule(0, 0, 2), -1);
        Checks.due("no fact", x.witnessRule(1, 1, 2), -1);
    }

    /** Under the stored D a rule may match a fact that it could not have brought into D. */
    private static void witnessFirstFoundIsNotLeast() {
        ConjunctiveParser x = new ConjunctiveParser(2, 1);
        Checks.rule(x, 0, Checks.body(0));
        Checks.rule(x, 0, Checks.body(1));
        Checks.rule(x, 1, Checks.body(0), Checks.body(Checks.A));
        Checks.rule(x, 1, Checks.body(Checks.A));
        Checks.due("parse of a", Checks.parseOf(x, "a"), 1);
        Checks.due("A -> A", x.witnessRule(0, 0, 1), 0);
        Checks.due("B -> A & a", x.witnessRule(1, 0, 1), 2);
    }

    private static void mostPieces() {
        ConjunctiveParser x = new ConjunctiveParser(8, 8);
        Checks.rule(x, 7, Checks.body());
        for (int t = 0; t < 8; t++) {
            Checks.rule(x, 7, Checks.body(7, Checks.A + t));
        }
        String letters = "hgfedcbaabcd";
        for (int n = 0; n <= 12; n++) {
            Checks.parseOf(x, letters.substring(0, n));
            Checks.due("countDerived(7) for " + n + " letters", x.countDerived(7), (n + 1) * (n + 2) / 2);
            Checks.due("countDerived(6) for " + n + " letters", x.countDerived(6), 0);
            Checks.due("derives(7, 0, n) for " + n + " letters", x.derives(7, 0, n), 1);
        }
    }

    private static void changeNothing() {
        ConjunctiveParser x = Checks.equalThirds();
        Checks.word(x, "aabbcc");
        String unparsed = Checks.view(x);
        Checks.due("the queries before parse()", Checks.view(x), unparsed);
        x.parse();
        String before = Checks.view(x);
        for (int k : Checks.manyInts()) {
            x.derives(k, k, k);
            x.derives(0, k, 3);
            x.derives(0, 3, k);
            x.witnessRule(k, 0, 0);
            x.witnessRule(0, k, 3);
            x.witnessRule(0, 3, k);
            x.countDerived(k);
        }
        Checks.due("the queries", Checks.view(x), before);
        Checks.due("parse() again", x.parse(), 1);
    }
}
