/** Promise 2: beginRule. */
public final class BeginRuleTest {
    public static void main(String[] args) {
        Checks.sentence("1. head < 0 -> REFUSED", BeginRuleTest::headTooSmall);
        Checks.sentence("1. head >= N -> REFUSED", BeginRuleTest::headTooLarge);
        Checks.sentence("1. heads 0..N-1 are taken", BeginRuleTest::headsOfTheGrammar);
        Checks.sentence("2. ruleCount() == MAX_RULES -> REFUSED", BeginRuleTest::rulesFull);
        Checks.sentence("2. with one rule fewer it is taken", BeginRuleTest::rulesNearlyFull);
        Checks.sentence("3. conjunctCount() == MAX_CONJUNCTS -> REFUSED", BeginRuleTest::conjunctsFull);
        Checks.sentence("3. with one conjunct fewer it is taken", BeginRuleTest::conjunctsNearlyFull);
        Checks.sentence("several tests at once -> REFUSED", BeginRuleTest::severalAtOnce);
        Checks.sentence("refused by 1, head too small, it changes nothing",
                () -> Unchanged.byRefused("beginRule(-1)", States::ordinary, x -> x.beginRule(-1)));
        Checks.sentence("refused by 1, head too large, it changes nothing",
                () -> Unchanged.byRefused("beginRule(3)", States::ordinary, x -> x.beginRule(3)));
        Checks.sentence("refused by 1, without a rule, it changes nothing",
                () -> Unchanged.byRefused("beginRule(3)", States::noRules, x -> x.beginRule(3)));
        Checks.sentence("refused by 2 it changes nothing",
                () -> Unchanged.byRefused("beginRule(1)", States::fullOfRules, x -> x.beginRule(1)));
        Checks.sentence("refused by 3 it changes nothing",
                () -> Unchanged.byRefused("beginRule(2)", States::fullOfConjuncts, x -> x.beginRule(2)));
        Checks.sentence("refused with every limit reached it changes nothing",
                () -> Unchanged.byRefused("beginRule(0)", States::fullOfAll, x -> x.beginRule(0)));
        Checks.sentence("it answers the old ruleCount()", BeginRuleTest::answers);
        Checks.sentence("ruleCount() grows by 1", BeginRuleTest::ruleCountGrows);
        Checks.sentence("conjunctCount() grows by 1", BeginRuleTest::conjunctCountGrows);
        Checks.sentence("the new conjunct's number is the old conjunctCount()", BeginRuleTest::conjunctNumber);
        Checks.sentence("the new conjunct is empty", BeginRuleTest::newConjunctIsEmpty);
        Checks.sentence("the new rule is the open rule", BeginRuleTest::newRuleIsOpen);
        Checks.sentence("the new conjunct is the open conjunct", BeginRuleTest::newConjunctIsOpen);
        Checks.sentence("symbolCount() is unchanged", BeginRuleTest::symbolCountStays);
        Checks.sentence("earlier rules and conjuncts are unchanged", BeginRuleTest::earlierRulesStay);
        Checks.sentence("the word is unchanged", BeginRuleTest::wordStays);
        Checks.sentence("parsed becomes false", BeginRuleTest::notParsed);
        Checks.sentence("several rules may share a head", BeginRuleTest::sharedHead);
        Checks.end();
    }

    private static void headTooSmall() {
        for (int n = 1; n <= 8; n++) {
            for (int head : Checks.below(0)) {
                Checks.due("N = " + n + ", beginRule(" + head + ")", new ConjunctiveParser(n, 2).beginRule(head), -1);
            }
        }
    }

    private static void headTooLarge() {
        for (int n = 1; n <= 8; n++) {
            for (int head : Checks.from(n)) {
                Checks.due("N = " + n + ", beginRule(" + head + ")", new ConjunctiveParser(n, 2).beginRule(head), -1);
            }
        }
    }

    private static void headsOfTheGrammar() {
        for (int n = 1; n <= 8; n++) {
            for (int head = 0; head < n; head++) {
                Checks.due("N = " + n + ", beginRule(" + head + ")", new ConjunctiveParser(n, 2).beginRule(head), 0);
            }
        }
    }

    private static void rulesFull() {
        for (int head = 0; head < 3; head++) {
            Checks.due("beginRule(" + head + ") after 16 rules", States.fullOfRules().beginRule(head), -1);
        }
    }

    private static void rulesNearlyFull() {
        ConjunctiveParser x = new ConjunctiveParser(1, 1);
        for (int r = 0; r < 15; r++) {
            x.beginRule(0);
        }
        Checks.due("beginRule(0) after 15 rules", x.beginRule(0), 15);
    }

    private static void conjunctsFull() {
        for (int head = 0; head < 3; head++) {
            Checks.due("beginRule(" + head + ") after 32 conjuncts", States.fullOfConjuncts().beginRule(head), -1);
        }
        ConjunctiveParser x = new ConjunctiveParser(1, 1);
        Checks.rule(x, 0, States.equalBodies(32, Checks.body()));
        Checks.due("beginRule(0) after 32 conjuncts of one rule", x.beginRule(0), -1);
    }

    private static void conjunctsNearlyFull() {
        ConjunctiveParser x = new ConjunctiveParser(1, 1);
        Checks.rule(x, 0, States.equalBodies(31, Checks.body()));
        Checks.due("beginRule(0) after 31 conjuncts", x.beginRule(0), 1);
    }

    private static void severalAtOnce() {
        for (int head : new int[] {Integer.MIN_VALUE, -1, 0, 7, 8, Integer.MAX_VALUE}) {
            Checks.due("beginRule(" + head + ") with every limit reached", States.fullOfAll().beginRule(head), -1);
        }
    }

    private static void answers() {
        ConjunctiveParser x = new ConjunctiveParser(8, 1);
        for (int r = 0; r < 16; r++) {
            Checks.due("rule " + r, x.beginRule(r * 5 % 8), r);
            x.addConjunct();
            x.addSymbol(0);
        }
    }

    private static void ruleCountGrows() {
        ConjunctiveParser x = new ConjunctiveParser(1, 1);
        for (int r = 0; r < 16; r++) {
            x.beginRule(0);
            Checks.due("ruleCount() after rule " + r, x.ruleCount(), r + 1);
        }
    }

    private static void conjunctCountGrows() {
        ConjunctiveParser x = new ConjunctiveParser(1, 1);
        for (int r = 0; r < 16; r++) {
            x.beginRule(0);
            Checks.due("conjunctCount() after rule " + r, x.conjunctCount(), 2 * r + 1);
            x.addConjunct();
        }
    }

    private static void conjunctNumber() {
        ConjunctiveParser x = new ConjunctiveParser(1, 1);
        for (int r = 0; r < 16; r++) {
            x.beginRule(0);
            Checks.due("the conjunct after rule " + r + "'s first", x.addConjunct(), 2 * r + 1);
        }
    }

    private static void newConjunctIsEmpty() {
        ConjunctiveParser x = States.fullBody();
        x.beginRule(2);
        x.parse();
        Checks.due("a rule just begun, on an empty piece", x.derives(2, 4, 4), 1);
        Checks.due("a rule just begun, on a letter", x.derives(2, 3, 4), 0);
        Checks.due("its first symbol", x.addSymbol(Checks.A), 1);

        ConjunctiveParser y = States.fullOfAll();
        y.clearGrammar();
        y.beginRule(0);
        Checks.due("its first symbol after clearGrammar()", y.addSymbol(Checks.A), 1);
    }

    private static void newRuleIsOpen() {
        ConjunctiveParser x = new ConjunctiveParser(2, 2);
        Checks.rule(x, 0, Checks.body(Checks.A));
        Checks.rule(x, 1, Checks.body(Checks.A));
        x.addConjunct();
        Checks.parseOf(x, "a");
        Checks.due("the rule before has no second conjunct", x.derives(0, 0, 1), 1);
        Checks.due("the new rule has one", x.derives(1, 0, 1), 0);
    }

    private static void newConjunctIsOpen() {
        ConjunctiveParser x = new ConjunctiveParser(2, 2);
        Checks.rule(x, 0, Checks.body(Checks.A));
        x.beginRule(1);
        x.addSymbol(Checks.B);
        Checks.parseOf(x, "ab");
        Checks.due("the conjunct before has no second symbol", x.derives(0, 0, 2), 0);
        Checks.due("the new conjunct has a first", x.derives(1, 1, 2), 1);
    }

    private static void symbolCountStays() {
        ConjunctiveParser x = States.fullBody();
        x.beginRule(0);
        Checks.due("symbolCount()", x.symbolCount(), 5);
        ConjunctiveParser y = States.fullOfSymbols();
        y.beginRule(0);
        Checks.due("symbolCount() when full", y.symbolCount(), 64);
    }

    private static void earlierRulesStay() {
        ConjunctiveParser x = States.equalThirds();
        x.parse();
        String before = Checks.facts(x);
        Checks.rule(x, 0, Checks.body(0), Checks.body(0));
        x.parse();
        Checks.due("D with a rule that adds nothing", Checks.facts(x), before);
    }

    private static void wordStays() {
        ConjunctiveParser x = new ConjunctiveParser(2, 2);
        Checks.word(x, "abbabaabbaba");
        x.beginRule(0);
        Checks.due("inputLength()", x.inputLength(), 12);
        Checks.rule(x, 1, Checks.body(Checks.B));
        x.parse();
        Checks.dueWhereB(x, 1, "abbabaabbaba");
    }

    private static void notParsed() {
        ConjunctiveParser x = new ConjunctiveParser(2, 2);
        for (int r = 0; r < 16; r++) {
            x.parse();
            x.beginRule(r % 2);
            Checks.due("isParsed() after rule " + r, x.isParsed(), false);
        }
    }

    private static void sharedHead() {
        ConjunctiveParser x = new ConjunctiveParser(1, 8);
        for (int r = 0; r < 16; r++) {
            Checks.rule(x, 0, r < 8 ? Checks.body(Checks.A + r) : Checks.body(Checks.A + r - 8, Checks.A));
        }
        for (int c = 0; c < 8; c++) {
            String letter = String.valueOf((char) ('a' + c));
            Checks.due("parse of " + letter, Checks.parseOf(x, letter), 1);
            Checks.due("parse of " + letter + "a", Checks.parseOf(x, letter + "a"), 1);
        }
        Checks.due("parse of ab", Checks.parseOf(x, "ab"), 0);
    }
}
