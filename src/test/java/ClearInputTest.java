/** Promise 7: clearInput. */
public final class ClearInputTest {
    public static void main(String[] args) {
        Checks.sentence("it makes the word empty (n = 0)", ClearInputTest::wordIsEmpty);
        Checks.sentence("it is never refused: an empty word", ClearInputTest::emptyWord);
        Checks.sentence("it is never refused: a full word", ClearInputTest::fullWord);
        Checks.sentence("letters start again at position 0", ClearInputTest::lettersFromZero);
        Checks.sentence("there is room for MAX_INPUT letters again", ClearInputTest::roomForAll);
        Checks.sentence("no letter of the old word is left", ClearInputTest::oldLettersGone);
        Checks.sentence("parsed becomes false", ClearInputTest::notParsed);
        Checks.sentence("parsed becomes false, even if the word was already empty", ClearInputTest::notParsedWhenEmpty);
        Checks.sentence("the grammar is kept", ClearInputTest::grammarKept);
        Checks.sentence("the counts of the grammar are kept", ClearInputTest::countsKept);
        Checks.sentence("the open rule is kept", ClearInputTest::openRuleKept);
        Checks.sentence("the open conjunct is kept", ClearInputTest::openConjunctKept);
        Checks.sentence("a grammar without rules is kept so", ClearInputTest::noRulesKept);
        Checks.end();
    }

    private static ConjunctiveParser cleared() {
        ConjunctiveParser x = States.fullWord();
        x.parse();
        x.clearInput();
        return x;
    }

    private static void wordIsEmpty() {
        ConjunctiveParser x = States.ordinary();
        x.clearInput();
        Checks.due("inputLength()", x.inputLength(), 0);
        x.parse();
        Checks.due("derives(0, 0, 1) of the empty word", x.derives(0, 0, 1), -1);
    }

    private static void emptyWord() {
        ConjunctiveParser x = new ConjunctiveParser(1, 1);
        x.clearInput();
        x.clearInput();
        Checks.due("inputLength()", x.inputLength(), 0);
    }

    private static void fullWord() {
        Checks.due("inputLength()", cleared().inputLength(), 0);
    }

    private static void lettersFromZero() {
        ConjunctiveParser x = cleared();
        Checks.due("the first letter", x.addLetter(1), 1);
        x.parse();
        Checks.due("C -> b, at position 0", x.derives(2, 0, 1), 1);
    }

    private static void roomForAll() {
        ConjunctiveParser x = cleared();
        for (int p = 0; p < 12; p++) {
            Checks.due("letter " + p, x.addLetter(p % 2), p + 1);
        }
    }

    private static void oldLettersGone() {
        ConjunctiveParser x = new ConjunctiveParser(1, 2);
        Checks.rule(x, 0, Checks.body(Checks.A, Checks.B));
        Checks.word(x, "ab");
        x.clearInput();
        x.addLetter(0);
        Checks.due("ab on a, where ab was the word before", x.parse(), 0);
        x.addLetter(0);
        Checks.due("ab on aa, where ab was the word before", x.parse(), 0);
    }

    private static void notParsed() {
        Checks.due("isParsed()", cleared().isParsed(), false);
    }

    private static void notParsedWhenEmpty() {
        ConjunctiveParser never = new ConjunctiveParser(1, 1);
        never.parse();
        never.clearInput();
        Checks.due("isParsed(), never a letter", never.isParsed(), false);
        ConjunctiveParser once = cleared();
        once.parse();
        once.clearInput();
        Checks.due("isParsed(), cleared before", once.isParsed(), false);
    }

    private static void grammarKept() {
        ConjunctiveParser x = States.equalThirds();
        x.clearInput();
        for (int p = 0; p < 6; p++) {
            x.addLetter(p / 2);
        }
        Checks.due("parse of aabbcc", x.parse(), 1);
        x.clearInput();
        x.addLetter(1);
        Checks.due("parse of b", x.parse(), 0);
    }

    private static void countsKept() {
        ConjunctiveParser x = States.fullOfAll();
        x.clearInput();
        Checks.due("the counts", Checks.counts(x), "16 rules, 32 conjuncts, 64 symbols, 0 letters");
    }

    private static void openRuleKept() {
        ConjunctiveParser x = new ConjunctiveParser(2, 2);
        Checks.rule(x, 1, Checks.body(Checks.A));
        Checks.rule(x, 0, Checks.body(Checks.A));
        x.clearInput();
        Checks.due("addConjunct()", x.addConjunct(), 2);
        x.addLetter(0);
        Checks.due("a & empty, on a", x.parse(), 0);
        Checks.due("the rule before, on a", x.derives(1, 0, 1), 1);
    }

    private static void openConjunctKept() {
        ConjunctiveParser x = new ConjunctiveParser(1, 2);
        Checks.rule(x, 0, Checks.body(Checks.A, Checks.B), Checks.body(Checks.A));
        x.clearInput();
        Checks.due("addSymbol(B)", x.addSymbol(Checks.B), 2);
        Checks.due("ab & ab, on ab", Checks.parseOf(x, "ab"), 1);
    }

    private static void noRulesKept() {
        ConjunctiveParser x = States.noRules();
        x.clearInput();
        Checks.due("addConjunct()", x.addConjunct(), -1);
        Checks.due("addSymbol(A)", x.addSymbol(Checks.A), -1);
    }
}
