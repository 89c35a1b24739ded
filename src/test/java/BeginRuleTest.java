/** Promise 2. */
public final class BeginRuleTest {
    public static void main(String[] args) {
        numbersAndCounts();
        wrongHeads();
        mostRules();
        mostConjuncts();
        refusedKeepsOpenConjunct();
        sharedHead();
        Checks.end();
    }

    private static void numbersAndCounts() {
        ConjunctiveParser x = new ConjunctiveParser(3, 2);
        Checks.word(x, "ab");
        Checks.due("first rule", x.beginRule(2), 0);
        Checks.due("first rule", Checks.counts(x), "1 rules, 1 conjuncts, 0 symbols, 2 letters, parsed false");
        x.addSymbol(Checks.A);
        x.addConjunct();
        x.parse();
        Checks.due("second rule", x.beginRule(0), 1);
        Checks.due("second rule", Checks.counts(x), "2 rules, 3 conjuncts, 1 symbols, 2 letters, parsed false");
        Checks.due("its first symbol", x.addSymbol(Checks.A), 1);
        Checks.due("its second symbol", x.addSymbol(Checks.B), 2);
        Checks.due("parse()", x.parse(), 1);
        Checks.due("the earlier rule is a & empty, which derives nothing", x.countDerived(2), 0);
        Checks.due("next conjunct's number", x.addConjunct(), 3);
    }

    private static void wrongHeads() {
        for (int n = 1; n <= 8; n++) {
            ConjunctiveParser x = new ConjunctiveParser(n, 2);
            Checks.rule(x, n - 1, Checks.body(Checks.A));
            Checks.parseOf(x, "aa");
            String before = Checks.view(x);
            for (int head : Checks.manyInts()) {
                if (head < 0 || head >= n) {
                    Checks.due("N = " + n + ", beginRule(" + head + ")", x.beginRule(head), -1);
                    Checks.due("N = " + n + ", beginRule(" + head + ")", Checks.view(x), before);
                }
            }
            for (int head = 0; head < n; head++) {
                Checks.due("N = " + n + ", beginRule(" + head + ")", x.beginRule(head), head + 1);
            }
        }
    }

    private static void mostRules() {
        ConjunctiveParser x = new ConjunctiveParser(2, 2);
        for (int r = 0; r < 16; r++) {
            Checks.due("rule " + r, x.beginRule(r % 2), r);
        }
        Checks.parseOf(x, "ab");
        String before = Checks.view(x);
        Checks.due("rule past the most", x.beginRule(0), -1);
        Checks.due("rule past the most", Checks.view(x), before);
        Checks.due("conjuncts may still come", x.addConjunct(), 16);
        x.clearGrammar();
        Checks.due("after clearGrammar()", x.beginRule(1), 0);
    }

    private static void mostConjuncts() {
        ConjunctiveParser x = new ConjunctiveParser(2, 2);
        Checks.due("beginRule(0)", x.beginRule(0), 0);
        for (int c = 1; c < 31; c++) {
            Checks.due("conjunct " + c, x.addConjunct(), c);
        }
        Checks.due("the last conjunct, by a rule", x.beginRule(1), 1);
        Checks.due("conjunctCount()", x.conjunctCount(), 32);
        Checks.parseOf(x, "a");
        String before = Checks.view(x);
        Checks.due("rule past the most conjuncts", x.beginRule(0), -1);
        Checks.due("rule past the most conjuncts", Checks.view(x), before);
        Checks.due("the open conjunct is rule 1's", x.addSymbol(Checks.A), 1);
        Checks.due("parse()", x.parse(), 0);
        Checks.due("derives(1, 0, 1)", x.derives(1, 0, 1), 1);
    }

    private static void refusedKeepsOpenConjunct() {
        ConjunctiveParser x = new ConjunctiveParser(2, 2);
        Checks.rule(x, 0, Checks.body(Checks.A));
        Checks.due("beginRule(2)", x.beginRule(2), -1);
        Checks.due("addSymbol(B) to the same conjunct", x.addSymbol(Checks.B), 2);
        Checks.due("parse of ab", Checks.parseOf(x, "ab"), 1);
        Checks.due("parse of a", Checks.parseOf(x, "a"), 0);
    }

    private static void sharedHead() {
        ConjunctiveParser x = new ConjunctiveParser(1, 3);
        Checks.rule(x, 0, Checks.body(Checks.A));
        Checks.rule(x, 0, Checks.body(Checks.B));
        Checks.due("parse of a", Checks.parseOf(x, "a"), 1);
        Checks.due("parse of b", Checks.parseOf(x, "b"), 1);
        Checks.due("parse of c", Checks.parseOf(x, "c"), 0);
    }
}
