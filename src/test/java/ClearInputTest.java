/** Promise 7. */
public final class ClearInputTest {
    public static void main(String[] args) {
        ConjunctiveParser x = Checks.equalThirds();
        Checks.due("parse of aabbccc", Checks.parseOf(x, "aabbccc"), 0);
        x.clearInput();
        Checks.due("clearInput()", Checks.counts(x), "9 rules, 10 conjuncts, 14 symbols, 0 letters, parsed false");
        Checks.due("derives(0, 0, 0)", x.derives(0, 0, 0), -1);
        Checks.due("parse() of the empty word", x.parse(), 1);
        Checks.due("only one piece is left", x.countDerived(0), 1);
        Checks.due("derives(0, 0, 1)", x.derives(0, 0, 1), -1);
        x.clearInput();
        Checks.due("an empty word cleared", x.isParsed(), false);
        Checks.due("letters start again", x.addLetter(2), 1);
        Checks.due("parse() of c", x.parse(), 0);
        Checks.due("derives(3, 0, 1)", x.derives(3, 0, 1), 1);

        ConjunctiveParser y = new ConjunctiveParser(1, 2);
        Checks.rule(y, 0, Checks.body(Checks.B), Checks.body(Checks.A));
        y.clearInput();
        Checks.due("the open conjunct is kept", y.addSymbol(Checks.B), 2);
        y.clearInput();
        Checks.due("the open rule is kept", y.addConjunct(), 2);
        Checks.rule(y, 0, Checks.body(Checks.A, Checks.B));
        Checks.due("parse of ab", Checks.parseOf(y, "ab"), 1);
        Checks.due("witnessRule(0, 0, 2)", y.witnessRule(0, 0, 2), 1);
        Checks.due("parse of b", Checks.parseOf(y, "b"), 0);
        Checks.end();
    }
}
