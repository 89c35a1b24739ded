/** Promise 5. */
public final class ClearGrammarTest {
    public static void main(String[] args) {
        ConjunctiveParser x = Checks.equalThirds();
        Checks.due("parse of aabbcc", Checks.parseOf(x, "aabbcc"), 1);
        x.clearGrammar();
        Checks.due("clearGrammar()", Checks.counts(x), "0 rules, 0 conjuncts, 0 symbols, 6 letters, parsed false");
        Checks.due("addConjunct()", x.addConjunct(), -1);
        Checks.due("addSymbol(A)", x.addSymbol(Checks.A), -1);
        Checks.due("beginRule(5)", x.beginRule(5), -1);
        Checks.due("addConjunct() after a refused beginRule", x.addConjunct(), -1);
        Checks.due("addSymbol(A) after a refused beginRule", x.addSymbol(Checks.A), -1);
        Checks.due("derives(0, 0, 6)", x.derives(0, 0, 6), -1);
        Checks.due("parse() without rules", x.parse(), 0);
        for (int a = 0; a < 5; a++) {
            Checks.due("countDerived(" + a + ")", x.countDerived(a), 0);
        }
        x.clearGrammar();
        Checks.due("an empty grammar cleared", x.isParsed(), false);

        Checks.due("rules start again at 0", x.beginRule(0), 0);
        Checks.due("its conjunct is new and empty", x.addSymbol(1), 1);
        Checks.due("addSymbol(1)", x.addSymbol(1), 2);
        Checks.due("conjuncts start again at 0", x.addConjunct(), 1);
        Checks.due("its body is new and empty", x.addSymbol(2), 1);
        Checks.due("second rule", x.beginRule(1), 1);
        Checks.due("addSymbol(A)", x.addSymbol(Checks.A), 1);
        Checks.due("addSymbol(A)", x.addSymbol(Checks.A), 2);
        Checks.rule(x, 1, Checks.body(Checks.B, Checks.B, Checks.C, Checks.C));
        Checks.rule(x, 2, Checks.body(1, Checks.B, Checks.B, 3));
        Checks.rule(x, 3, Checks.body(Checks.C, Checks.C));
        Checks.due("the word is kept", x.parse(), 1);
        Checks.due("witnessRule(0, 0, 6)", x.witnessRule(0, 0, 6), 0);
        Checks.due("nothing of the old grammar is left", x.countDerived(4), 0);
        Checks.end();
    }
}
