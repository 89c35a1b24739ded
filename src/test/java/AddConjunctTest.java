/** Promise 3. */
public final class AddConjunctTest {
    public static void main(String[] args) {
        noOpenRule();
        numbersAndCounts();
        mostConjuncts();
        refusedKeepsOpenConjunct();
        joinsTheOpenRule();
        Checks.end();
    }

    private static void noOpenRule() {
        ConjunctiveParser x = new ConjunctiveParser(2, 2);
        Checks.parseOf(x, "ab");
        String before = Checks.view(x);
        Checks.due("without a rule", x.addConjunct(), -1);
        Checks.due("without a rule", Checks.view(x), before);
        x.beginRule(0);
        x.clearGrammar();
        x.parse();
        Checks.due("after clearGrammar()", x.addConjunct(), -1);
        Checks.due("after clearGrammar()", Checks.view(x), before);
    }

    private static void numbersAndCounts() {
        ConjunctiveParser x = new ConjunctiveParser(2, 2);
        Checks.word(x, "a");
        Checks.rule(x, 0, Checks.body(Checks.A));
        Checks.due("parse()", x.parse(), 1);
        Checks.due("addConjunct()", x.addConjunct(), 1);
        Checks.due("addConjunct()", Checks.counts(x), "1 rules, 2 conjuncts, 1 symbols, 1 letters, parsed false");
        Checks.due("a & empty", x.parse(), 0);
        Checks.due("a new conjunct is empty", x.addSymbol(Checks.A), 1);
        Checks.due("a & a", x.parse(), 1);
        Checks.due("addConjunct()", x.addConjunct(), 2);
        Checks.due("beginRule(1)", x.beginRule(1), 1);
        Checks.due("the number goes on over rules", x.addConjunct(), 4);
    }

    private static void mostConjuncts() {
        ConjunctiveParser x = new ConjunctiveParser(1, 1);
        x.beginRule(0);
        for (int c = 1; c < 32; c++) {
            Checks.due("conjunct " + c, x.addConjunct(), c);
        }
        Checks.due("32 empty conjuncts", x.parse(), 1);
        String before = Checks.view(x);
        Checks.due("conjunct past the most", x.addConjunct(), -1);
        Checks.due("conjunct past the most", Checks.view(x), before);
        Checks.due("the last conjunct is open", x.addSymbol(Checks.A), 1);
        Checks.due("the last conjunct counts", x.parse(), 0);
    }

    private static void refusedKeepsOpenConjunct() {
        ConjunctiveParser x = new ConjunctiveParser(1, 2);
        x.beginRule(0);
        for (int c = 1; c < 32; c++) {
            x.addSymbol(Checks.A);
            x.addSymbol(Checks.B);
            x.addConjunct();
        }
        Checks.due("addSymbol(A)", x.addSymbol(Checks.A), 1);
        Checks.due("addConjunct()", x.addConjunct(), -1);
        Checks.due("addSymbol(B)", x.addSymbol(Checks.B), 2);
        Checks.due("parse of ab", Checks.parseOf(x, "ab"), 1);
    }

    private static void joinsTheOpenRule() {
        ConjunctiveParser x = new ConjunctiveParser(2, 2);
        Checks.rule(x, 0, Checks.body(Checks.A));
        Checks.rule(x, 1, Checks.body(Checks.A));
        x.addConjunct();
        x.addSymbol(Checks.B);
        Checks.due("the first rule is as it was", Checks.parseOf(x, "a"), 1);
        Checks.due("the open rule demands both", x.derives(1, 0, 1), 0);
    }
}
