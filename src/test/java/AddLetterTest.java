/** Promise 6: addLetter. */
public final class AddLetterTest {
    public static void main(String[] args) {
        Checks.sentence("1. c < 0 -> REFUSED", AddLetterTest::tooSmall);
        Checks.sentence("1. c >= T -> REFUSED", AddLetterTest::tooLarge);
        Checks.sentence("1. letters 0..T-1 are taken", AddLetterTest::lettersOfTheGrammar);
        Checks.sentence("2. inputLength() == MAX_INPUT -> REFUSED", AddLetterTest::wordFull);
        Checks.sentence("2. with one letter fewer it is taken", AddLetterTest::wordNearlyFull);
        Checks.sentence("it is not refused for a full or an empty grammar", AddLetterTest::otherLimits);
        Checks.sentence("both tests at once -> REFUSED", AddLetterTest::bothAtOnce);
        Checks.sentence("refused by 1, c too small, it changes nothing",
                () -> Unchanged.byRefused("addLetter(-1)", States::ordinary, x -> x.addLetter(-1)));
        Checks.sentence("refused by 1, c too large, it changes nothing",
                () -> Unchanged.byRefused("addLetter(2)", States::ordinary, x -> x.addLetter(2)));
        Checks.sentence("refused by 1, a letter's symbol, it changes nothing",
                () -> Unchanged.byRefused("addLetter(16)", States::ordinary, x -> x.addLetter(16)));
        Checks.sentence("refused by 1, with no rule, it changes nothing",
                () -> Unchanged.byRefused("addLetter(2)", States::noRules, x -> x.addLetter(2)));
        Checks.sentence("refused by 2 it changes nothing",
                () -> Unchanged.byRefused("addLetter(1)", States::fullWord, x -> x.addLetter(1)));
        Checks.sentence("refused with every limit reached it changes nothing",
                () -> Unchanged.byRefused("addLetter(7)", States::fullOfAll, x -> x.addLetter(7)));
        Checks.sentence("it answers the new length, 1..MAX_INPUT", AddLetterTest::answers);
        Checks.sentence("it appends to the end of the word", AddLetterTest::appends);
        Checks.sentence("earlier letters keep their positions", AddLetterTest::earlierLettersStay);
        Checks.sentence("the grammar is unchanged", AddLetterTest::grammarStays);
        Checks.sentence("the open rule and the open conjunct are unchanged", AddLetterTest::openOnesStay);
        Checks.sentence("parsed becomes false", AddLetterTest::notParsed);
        Checks.end();
    }

    private static void tooSmall() {
        for (int t = 1; t <= 8; t++) {
            for (int c : Checks.below(0)) {
                Checks.due("T = " + t + ", addLetter(" + c + ")", new ConjunctiveParser(2, t).addLetter(c), -1);
            }
        }
    }

    private static void tooLarge() {
        for (int t = 1; t <= 8; t++) {
            for (int c : Checks.from(t)) {
                Checks.due("T = " + t + ", addLetter(" + c + ")", new ConjunctiveParser(9 - t, t).addLetter(c), -1);
            }
        }
    }

    private static void lettersOfTheGrammar() {
        for (int t = 1; t <= 8; t++) {
            for (int c = 0; c < t; c++) {
                Checks.due("T = " + t + ", addLetter(" + c + ")", new ConjunctiveParser(9 - t, t).addLetter(c), 1);
            }
        }
    }

    private static void wordFull() {
        Checks.due("a 13th letter 0", States.fullWord().addLetter(0), -1);
        Checks.due("a 13th letter 1", States.fullWord().addLetter(1), -1);
    }

    private static void wordNearlyFull() {
        ConjunctiveParser x = new ConjunctiveParser(1, 2);
        Checks.word(x, "ababababaab");
        Checks.due("a 12th letter", x.addLetter(1), 12);
    }

    private static void otherLimits() {
        Checks.due("addLetter(1) without a rule", States.noRules().addLetter(1), 5);
        Checks.due("addLetter(1) after 16 rules", States.fullOfRules().addLetter(1), 5);
        Checks.due("addLetter(1) after 32 conjuncts", States.fullOfConjuncts().addLetter(1), 5);
        Checks.due("addLetter(1) after 64 symbols", States.fullOfSymbols().addLetter(1), 5);
        Checks.due("addLetter(1) after a body of 4", States.fullBody().addLetter(1), 5);
    }

    private static void bothAtOnce() {
        for (int c : new int[] {Integer.MIN_VALUE, -1, 2, Integer.MAX_VALUE}) {
            Checks.due("addLetter(" + c + ") to a full word", States.fullWord().addLetter(c), -1);
        }
    }

    private static void answers() {
        ConjunctiveParser x = new ConjunctiveParser(1, 3);
        for (int p = 0; p < 12; p++) {
            Checks.due("letter " + p, x.addLetter(p % 3), p + 1);
        }
    }

    /** One nonterminal for each letter: nonterminal a derives [p, p + 1) iff letter a stands at p. */
    private static ConjunctiveParser letterByLetter() {
        ConjunctiveParser x = new ConjunctiveParser(8, 8);
        for (int a = 0; a < 8; a++) {
            Checks.rule(x, a, Checks.body(Checks.A + a));
        }
        return x;
    }

    private static void dueLetter(ConjunctiveParser x, int p, int letter) {
        for (int a = 0; a < 8; a++) {
            Checks.due("letter " + a + " at " + p, x.derives(a, p, p + 1), a == letter ? 1 : 0);
        }
    }

    private static void appends() {
        ConjunctiveParser x = letterByLetter();
        for (int p = 0; p < 12; p++) {
            x.addLetter(p * 3 % 8);
            x.parse();
            dueLetter(x, p, p * 3 % 8);
        }
    }

    private static void earlierLettersStay() {
        ConjunctiveParser x = letterByLetter();
        for (int p = 0; p < 12; p++) {
            x.addLetter(p * 5 % 8);
            x.parse();
            for (int q = 0; q < p; q++) {
                dueLetter(x, q, q * 5 % 8);
            }
        }
    }

    private static void grammarStays() {
        ConjunctiveParser x = States.equalThirds();
        Checks.word(x, "aabbc");
        String before = Checks.counts(x);
        x.addLetter(2);
        Checks.due("the counts", Checks.counts(x), before.replace("5 letters", "6 letters"));
        Checks.due("parse of aabbcc", x.parse(), 1);
        x.addLetter(2);
        Checks.due("parse of aabbccc", x.parse(), 0);
    }

    private static void openOnesStay() {
        ConjunctiveParser x = new ConjunctiveParser(2, 2);
        Checks.rule(x, 0, Checks.body(Checks.A));
        x.addLetter(0);
        Checks.due("the open conjunct's second symbol", x.addSymbol(Checks.B), 2);
        x.addLetter(1);
        Checks.due("the open rule's second conjunct", x.addConjunct(), 1);
        x.addSymbol(Checks.A);
        x.addSymbol(Checks.B);
        Checks.due("ab & ab, on ab", x.parse(), 1);
    }

    private static void notParsed() {
        ConjunctiveParser x = new ConjunctiveParser(1, 2);
        for (int p = 0; p < 12; p++) {
            x.parse();
            x.addLetter(p % 2);
            Checks.due("isParsed() after letter " + p, x.isParsed(), false);
        }
    }
}
