/** Promise 5: clearGrammar. */
public final class ClearGrammarTest {
    public static void main(String[] args) {
        Checks.sentence("afterwards ruleCount() answers 0",
                () -> Checks.due("ruleCount()", cleared().ruleCount(), 0));
        Checks.sentence("afterwards conjunctCount() answers 0",
                () -> Checks.due("conjunctCount()", cleared().conjunctCount(), 0));
        Checks.sentence("afterwards symbolCount() answers 0",
                () -> Checks.due("symbolCount()", cleared().symbolCount(), 0));
        Checks.sentence("it is never refused: an empty grammar", ClearGrammarTest::emptyGrammar);
        Checks.sentence("it is never refused: a full grammar", ClearGrammarTest::fullGrammar);
        Checks.sentence("no open rule: addConjunct() is refused",
                () -> Checks.due("addConjunct()", cleared().addConjunct(), -1));
        Checks.sentence("no open rule: addSymbol(...) is refused", ClearGrammarTest::symbolsRefused);
        Checks.sentence("a refused beginRule(...) opens no rule", ClearGrammarTest::refusedBeginOpensNothing);
        Checks.sentence("the next beginRule(...) lets addConjunct() in", ClearGrammarTest::conjunctAfterBegin);
        Checks.sentence("the next beginRule(...) lets addSymbol(...) in", ClearGrammarTest::symbolAfterBegin);
        Checks.sentence("numbering of later rules starts again at 0", ClearGrammarTest::rulesFromZero);
        Checks.sentence("numbering of later conjuncts starts again at 0", ClearGrammarTest::conjunctsFromZero);
        Checks.sentence("every limit is as far as at the start", ClearGrammarTest::roomForAll);
        Checks.sentence("all rules are removed", ClearGrammarTest::rulesGone);
        Checks.sentence("all conjuncts and symbols are removed", ClearGrammarTest::bodiesGone);
        Checks.sentence("parsed becomes false", ClearGrammarTest::notParsed);
        Checks.sentence("parsed becomes false, even if the grammar was already empty",
                ClearGrammarTest::notParsedWhenEmpty);
        Checks.sentence("the word is kept", ClearGrammarTest::wordKept);
        Checks.end();
    }

    private static ConjunctiveParser cleared() {
        ConjunctiveParser x = States.fullOfAll();
        x.clearGrammar();
        return x;
    }

    private static void emptyGrammar() {
        ConjunctiveParser x = States.noRules();
        x.clearGrammar();
        x.clearGrammar();
        Checks.due("cleared twice", Checks.counts(x), "0 rules, 0 conjuncts, 0 symbols, 4 letters");
    }

    private static void fullGrammar() {
        Checks.due("full, then cleared", Checks.counts(cleared()), "0 rules, 0 conjuncts, 0 symbols, 12 letters");
    }

    private static void symbolsRefused() {
        for (int sym : new int[] {0, 7, 16, 23}) {
            Checks.due("addSymbol(" + sym + ")", cleared().addSymbol(sym), -1);
        }
    }

    private static void refusedBeginOpensNothing() {
        ConjunctiveParser x = cleared();
        x.beginRule(8);
        Checks.due("addConjunct() after beginRule(8)", x.addConjunct(), -1);
        Checks.due("addSymbol(0) after beginRule(8)", x.addSymbol(0), -1);
        x.beginRule(-1);
        Checks.due("addConjunct() after beginRule(-1)", x.addConjunct(), -1);
        Checks.due("addSymbol(16) after beginRule(-1)", x.addSymbol(16), -1);
    }

    private static void conjunctAfterBegin() {
        ConjunctiveParser x = cleared();
        x.beginRule(3);
        Checks.due("addConjunct() refused", x.addConjunct() == -1, false);
    }

    private static void symbolAfterBegin() {
        ConjunctiveParser x = cleared();
        x.beginRule(3);
        Checks.due("addSymbol(16)", x.addSymbol(16), 1);
    }

    private static void rulesFromZero() {
        ConjunctiveParser x = cleared();
        Checks.due("beginRule(5)", x.beginRule(5), 0);
        Checks.due("beginRule(5)", x.beginRule(5), 1);
        x.clearGrammar();
        Checks.due("beginRule(5) after the next clearGrammar()", x.beginRule(5), 0);
    }

    private static void conjunctsFromZero() {
        ConjunctiveParser x = cleared();
        x.beginRule(5);
        Checks.due("the conjunct after number 0", x.addConjunct(), 1);
        x.clearGrammar();
        x.beginRule(5);
        Checks.due("the same after the next clearGrammar()", x.addConjunct(), 1);
    }

    private static void roomForAll() {
        ConjunctiveParser x = cleared();
        for (int r = 0; r < 16; r++) {
            Checks.rule(x, r % 8, States.equalBodies(2, Checks.body(r % 8, 16 + r % 8)));
        }
        Checks.due("filled again", Checks.counts(x), "16 rules, 32 conjuncts, 64 symbols, 12 letters");
    }

    private static void rulesGone() {
        ConjunctiveParser x = States.equalThirds();
        x.parse();
        x.clearGrammar();
        Checks.due("parse()", x.parse(), 0);
        for (int a = 0; a < 5; a++) {
            Checks.due("countDerived(" + a + ")", x.countDerived(a), 0);
        }
        Checks.rule(x, 1, Checks.body(Checks.A));
        x.parse();
        Checks.due("an old rule after a new one was begun", x.countDerived(2), 0);
        Checks.due("the new rule", x.countDerived(1), 2);
    }

    private static void bodiesGone() {
        ConjunctiveParser x = new ConjunctiveParser(1, 2);
        Checks.rule(x, 0, Checks.body(Checks.A, Checks.A), Checks.body(Checks.A, Checks.A));
        x.clearGrammar();
        x.beginRule(0);
        Checks.due("a rule just begun, on the empty word", Checks.parseOf(x, ""), 1);
        x.addSymbol(Checks.B);
        Checks.due("S -> b, on b", Checks.parseOf(x, "b"), 1);
        x.addConjunct();
        Checks.due("S -> b & empty, on b", Checks.parseOf(x, "b"), 0);
        Checks.due("the second conjunct's first symbol", x.addSymbol(Checks.B), 1);
        Checks.due("S -> b & b, on b", Checks.parseOf(x, "b"), 1);
    }

    private static void notParsed() {
        ConjunctiveParser x = States.ordinary();
        x.parse();
        x.clearGrammar();
        Checks.due("isParsed()", x.isParsed(), false);
    }

    private static void notParsedWhenEmpty() {
        ConjunctiveParser never = States.noRules();
        never.parse();
        never.clearGrammar();
        Checks.due("isParsed(), never a rule", never.isParsed(), false);
        ConjunctiveParser once = States.clearedGrammar();
        once.parse();
        once.clearGrammar();
        Checks.due("isParsed(), cleared before", once.isParsed(), false);
    }

    private static void wordKept() {
        ConjunctiveParser x = new ConjunctiveParser(2, 2);
        Checks.rule(x, 0, Checks.body(Checks.A));
        Checks.word(x, "abbabaabbaba");
        x.clearGrammar();
        Checks.due("inputLength()", x.inputLength(), 12);
        Checks.rule(x, 1, Checks.body(Checks.B));
        x.parse();
        Checks.dueWhereB(x, 1, "abbabaabbaba");
    }
}
