/** Promise 3: addConjunct. */
public final class AddConjunctTest {
    public static void main(String[] args) {
        Checks.sentence("1. no open rule at the start -> REFUSED",
                () -> Checks.due("addConjunct()", States.noRules().addConjunct(), -1));
        Checks.sentence("1. no open rule after clearGrammar() -> REFUSED",
                () -> Checks.due("addConjunct()", States.clearedGrammar().addConjunct(), -1));
        Checks.sentence("2. conjunctCount() == MAX_CONJUNCTS -> REFUSED", AddConjunctTest::conjunctsFull);
        Checks.sentence("2. with one conjunct fewer it is taken", AddConjunctTest::conjunctsNearlyFull);
        Checks.sentence("it is not refused for full rules, symbols, body or word", AddConjunctTest::otherLimits);
        Checks.sentence("refused by 1, at the start, it changes nothing",
                () -> Unchanged.byRefused("addConjunct()", States::noRules, ConjunctiveParser::addConjunct));
        Checks.sentence("refused by 1, after clearGrammar(), it changes nothing",
                () -> Unchanged.byRefused("addConjunct()", States::clearedGrammar, ConjunctiveParser::addConjunct));
        Checks.sentence("refused by 2 it changes nothing",
                () -> Unchanged.byRefused("addConjunct()", States::fullOfConjuncts, ConjunctiveParser::addConjunct));
        Checks.sentence("refused with every limit reached it changes nothing",
                () -> Unchanged.byRefused("addConjunct()", States::fullOfAll, ConjunctiveParser::addConjunct));
        Checks.sentence("it answers the old conjunctCount()", AddConjunctTest::answers);
        Checks.sentence("conjunctCount() grows by 1", AddConjunctTest::conjunctCountGrows);
        Checks.sentence("the new conjunct is empty", AddConjunctTest::newConjunctIsEmpty);
        Checks.sentence("the new conjunct joins the open rule", AddConjunctTest::joinsOpenRule);
        Checks.sentence("the new conjunct is the open conjunct", AddConjunctTest::newConjunctIsOpen);
        Checks.sentence("ruleCount() is unchanged", AddConjunctTest::ruleCountStays);
        Checks.sentence("symbolCount() is unchanged", AddConjunctTest::symbolCountStays);
        Checks.sentence("which rule is the open rule is unchanged", AddConjunctTest::openRuleStays);
        Checks.sentence("all earlier conjuncts are unchanged", AddConjunctTest::earlierConjunctsStay);
        Checks.sentence("the word is unchanged", AddConjunctTest::wordStays);
        Checks.sentence("parsed becomes false", AddConjunctTest::notParsed);
        Checks.sentence("the previous open conjunct can no longer receive symbols", AddConjunctTest::previousIsClosed);
        Checks.end();
    }

    private static void conjunctsFull() {
        Checks.due("addConjunct() after 32 of two rules", States.fullOfConjuncts().addConjunct(), -1);
        ConjunctiveParser x = new ConjunctiveParser(1, 1);
        Checks.rule(x, 0, States.equalBodies(32, Checks.body()));
        Checks.due("addConjunct() after 32 of one rule", x.addConjunct(), -1);
    }

    private static void conjunctsNearlyFull() {
        ConjunctiveParser x = new ConjunctiveParser(1, 1);
        Checks.rule(x, 0, States.equalBodies(31, Checks.body()));
        Checks.due("addConjunct() after 31", x.addConjunct(), 31);
    }

    private static void otherLimits() {
        Checks.due("addConjunct() after 16 rules", States.fullOfRules().addConjunct(), 16);
        Checks.due("addConjunct() after 64 symbols", States.fullOfSymbols().addConjunct(), 22);
        Checks.due("addConjunct() after a body of 4", States.fullBody().addConjunct(), 2);
        Checks.due("addConjunct() after 12 letters", States.fullWord().addConjunct(), 4);
    }

    private static void answers() {
        ConjunctiveParser x = new ConjunctiveParser(1, 1);
        x.beginRule(0);
        for (int c = 1; c < 20; c++) {
            Checks.due("conjunct " + c, x.addConjunct(), c);
        }
        x.beginRule(0);
        for (int c = 21; c < 32; c++) {
            Checks.due("conjunct " + c + ", in the second rule", x.addConjunct(), c);
        }
    }

    private static void conjunctCountGrows() {
        ConjunctiveParser x = new ConjunctiveParser(1, 1);
        x.beginRule(0);
        for (int c = 1; c < 32; c++) {
            x.addConjunct();
            Checks.due("conjunctCount() after conjunct " + c, x.conjunctCount(), c + 1);
        }
    }

    private static void newConjunctIsEmpty() {
        ConjunctiveParser x = new ConjunctiveParser(2, 1);
        Checks.rule(x, 1, Checks.body());
        Checks.rule(x, 1, Checks.body(Checks.A));
        Checks.rule(x, 0, Checks.body(1), Checks.body());
        Checks.parseOf(x, "a");
        Checks.due("B & a new conjunct, on an empty piece", x.derives(0, 1, 1), 1);
        Checks.due("B & a new conjunct, on a letter", x.derives(0, 0, 1), 0);
        Checks.due("its first symbol", x.addSymbol(0), 1);

        ConjunctiveParser y = States.fullOfAll();
        y.clearGrammar();
        y.beginRule(0);
        y.addConjunct();
        Checks.due("its first symbol after clearGrammar()", y.addSymbol(Checks.A), 1);
    }

    private static void joinsOpenRule() {
        ConjunctiveParser x = new ConjunctiveParser(1, 2);
        Checks.rule(x, 0, Checks.body(Checks.A));
        x.addConjunct();
        x.addSymbol(Checks.B);
        Checks.due("a & b, on a", Checks.parseOf(x, "a"), 0);
        Checks.due("a & b, on b", Checks.parseOf(x, "b"), 0);
    }

    private static void newConjunctIsOpen() {
        ConjunctiveParser x = new ConjunctiveParser(1, 1);
        Checks.rule(x, 0, Checks.body(Checks.A));
        x.addConjunct();
        x.addSymbol(Checks.A);
        Checks.due("a & a, on a", Checks.parseOf(x, "a"), 1);
    }

    private static void ruleCountStays() {
        ConjunctiveParser x = States.ordinary();
        x.addConjunct();
        Checks.due("ruleCount()", x.ruleCount(), 3);
    }

    private static void symbolCountStays() {
        ConjunctiveParser x = States.ordinary();
        x.addConjunct();
        Checks.due("symbolCount()", x.symbolCount(), 6);
        ConjunctiveParser y = States.fullOfSymbols();
        y.addConjunct();
        Checks.due("symbolCount() when full", y.symbolCount(), 64);
    }

    private static void openRuleStays() {
        ConjunctiveParser x = new ConjunctiveParser(2, 2);
        Checks.rule(x, 0, Checks.body(Checks.A));
        Checks.rule(x, 1, Checks.body(Checks.B), Checks.body(Checks.B));
        x.addConjunct();
        x.addSymbol(Checks.A);
        Checks.parseOf(x, "ab");
        Checks.due("the rule before has its one conjunct", x.derives(0, 0, 1), 1);
        Checks.due("the open rule has the third", x.derives(1, 1, 2), 0);
        Checks.due("the next rule's number", x.beginRule(0), 2);
    }

    private static void earlierConjunctsStay() {
        ConjunctiveParser x = States.equalThirds();
        Checks.rule(x, 0, Checks.body(0));
        x.parse();
        String before = Checks.facts(x);
        x.addConjunct();
        x.addSymbol(0);
        x.parse();
        Checks.due("D with a conjunct that adds nothing", Checks.facts(x), before);
    }

    private static void wordStays() {
        ConjunctiveParser x = new ConjunctiveParser(2, 2);
        Checks.rule(x, 1, Checks.body(Checks.B));
        Checks.word(x, "abbabaabbaba");
        x.addConjunct();
        x.addSymbol(Checks.B);
        Checks.due("inputLength()", x.inputLength(), 12);
        x.parse();
        Checks.dueWhereB(x, 1, "abbabaabbaba");
    }

    private static void notParsed() {
        ConjunctiveParser x = new ConjunctiveParser(1, 1);
        x.beginRule(0);
        for (int c = 1; c < 32; c++) {
            x.parse();
            x.addConjunct();
            Checks.due("isParsed() after conjunct " + c, x.isParsed(), false);
        }
    }

    private static void previousIsClosed() {
        ConjunctiveParser x = new ConjunctiveParser(2, 2);
        Checks.rule(x, 0, Checks.body(Checks.A));
        x.addConjunct();
        Checks.due("the first symbol after addConjunct()", x.addSymbol(1), 1);
        Checks.rule(x, 1, Checks.body(Checks.A));
        Checks.rule(x, 1, Checks.body(Checks.A, Checks.A));
        Checks.due("a & B, on a", Checks.parseOf(x, "a"), 1);
        Checks.due("a & B, on aa", Checks.parseOf(x, "aa"), 0);
    }
}
