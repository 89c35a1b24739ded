import java.util.function.Consumer;
import java.util.function.ToIntFunction;

/** Promises 13 to 16: inputLength, ruleCount, conjunctCount, symbolCount. */
public final class GettersTest {
    public static void main(String[] args) {
        Checks.sentence("inputLength() answers every length in 0..MAX_INPUT", GettersTest::everyLength);
        stays("inputLength() never passes MAX_INPUT", 12, ConjunctiveParser::inputLength, x -> x.addLetter(0));
        stays("inputLength() stays for a wrong letter", 12, ConjunctiveParser::inputLength, x -> x.addLetter(8));
        Checks.sentence("inputLength() is the current one after clearInput()", GettersTest::lengthAfterClear);
        Checks.sentence("inputLength() changes nothing",
                () -> Unchanged.by("inputLength()", States::ordinary, ConjunctiveParser::inputLength));

        Checks.sentence("ruleCount() answers every count in 0..MAX_RULES", GettersTest::everyRuleCount);
        stays("ruleCount() never passes MAX_RULES", 16, ConjunctiveParser::ruleCount, x -> x.beginRule(0));
        stays("ruleCount() stays for a wrong head", 16, ConjunctiveParser::ruleCount, x -> x.beginRule(8));
        Checks.sentence("ruleCount() is held back by full conjuncts", GettersTest::rulesHeldBack);
        Checks.sentence("ruleCount() changes nothing",
                () -> Unchanged.by("ruleCount()", States::ordinary, ConjunctiveParser::ruleCount));

        Checks.sentence("conjunctCount() answers every count in 0..MAX_CONJUNCTS", GettersTest::everyConjunctCount);
        Checks.sentence("conjunctCount() is of all rules together", GettersTest::conjunctsTogether);
        stays("conjunctCount() never passes MAX_CONJUNCTS", 32, ConjunctiveParser::conjunctCount,
                ConjunctiveParser::addConjunct);
        stays("conjunctCount() never passes MAX_CONJUNCTS by rules", 32, ConjunctiveParser::conjunctCount,
                x -> x.beginRule(0));
        Checks.sentence("conjunctCount() is never less than ruleCount()", GettersTest::neverLess);
        Checks.sentence("conjunctCount() changes nothing",
                () -> Unchanged.by("conjunctCount()", States::ordinary, ConjunctiveParser::conjunctCount));

        Checks.sentence("symbolCount() answers every count in 0..MAX_SYMBOLS", GettersTest::everySymbolCount);
        Checks.sentence("symbolCount() is of all conjuncts together", GettersTest::symbolsTogether);
        stays("symbolCount() never passes MAX_SYMBOLS", 64, ConjunctiveParser::symbolCount, x -> x.addSymbol(0));
        stays("symbolCount() stays for a wrong symbol", 64, ConjunctiveParser::symbolCount, x -> x.addSymbol(8));
        Checks.sentence("symbolCount() is held back by a full body", GettersTest::symbolsHeldBack);
        Checks.sentence("symbolCount() changes nothing",
                () -> Unchanged.by("symbolCount()", States::ordinary, ConjunctiveParser::symbolCount));
        Checks.end();
    }

    /** With every limit reached, the count stays at its most however often a call past it is made. */
    private static void stays(String words, int most, ToIntFunction<ConjunctiveParser> count,
            Consumer<ConjunctiveParser> past) {
        Checks.sentence(words, () -> {
            ConjunctiveParser x = States.fullOfAll();
            for (int k = 0; k < 100; k++) {
                Checks.due("after " + k + " calls past the limit", count.applyAsInt(x), most);
                past.accept(x);
            }
        });
    }

    private static void everyLength() {
        ConjunctiveParser x = new ConjunctiveParser(1, 2);
        for (int n = 0; n <= 12; n++) {
            Checks.due("inputLength()", x.inputLength(), n);
            x.addLetter(n % 2);
        }
    }

    private static void lengthAfterClear() {
        ConjunctiveParser x = States.fullWord();
        x.clearInput();
        Checks.due("cleared", x.inputLength(), 0);
        x.addLetter(0);
        Checks.due("one letter after", x.inputLength(), 1);
    }

    private static void everyRuleCount() {
        ConjunctiveParser x = new ConjunctiveParser(2, 1);
        for (int r = 0; r <= 16; r++) {
            Checks.due("ruleCount()", x.ruleCount(), r);
            x.beginRule(r % 2);
        }
    }

    private static void rulesHeldBack() {
        ConjunctiveParser x = States.fullOfConjuncts();
        x.beginRule(0);
        Checks.due("ruleCount()", x.ruleCount(), 2);
    }

    private static void everyConjunctCount() {
        ConjunctiveParser x = new ConjunctiveParser(1, 1);
        Checks.due("conjunctCount()", x.conjunctCount(), 0);
        x.beginRule(0);
        for (int c = 1; c <= 32; c++) {
            Checks.due("conjunctCount()", x.conjunctCount(), c);
            x.addConjunct();
        }
    }

    private static void conjunctsTogether() {
        ConjunctiveParser x = new ConjunctiveParser(2, 1);
        Checks.rule(x, 0, States.equalBodies(3, Checks.body()));
        Checks.rule(x, 1, States.equalBodies(1, Checks.body()));
        Checks.rule(x, 0, States.equalBodies(5, Checks.body()));
        Checks.due("conjunctCount()", x.conjunctCount(), 9);
    }

    private static void neverLess() {
        ConjunctiveParser x = new ConjunctiveParser(3, 1);
        for (int k = 0; k < 200; k++) {
            if (k % 50 == 49) {
                x.clearGrammar();
            } else if (k % 50 > 20 && k % 3 == 0) {
                x.addConjunct();
            } else {
                x.beginRule(k % 5 - 1);
            }
            Checks.due("conjunctCount() >= ruleCount() after call " + k, x.conjunctCount() >= x.ruleCount(), true);
        }
    }

    private static void everySymbolCount() {
        ConjunctiveParser x = new ConjunctiveParser(1, 1);
        Checks.due("symbolCount()", x.symbolCount(), 0);
        x.beginRule(0);
        for (int k = 0; k <= 64; k++) {
            Checks.due("symbolCount()", x.symbolCount(), k);
            if (k % 4 == 3) {
                x.addSymbol(0);
                x.addConjunct();
            } else {
                x.addSymbol(Checks.A);
            }
        }
    }

    private static void symbolsTogether() {
        ConjunctiveParser x = new ConjunctiveParser(2, 1);
        Checks.rule(x, 0, Checks.body(0, 1), Checks.body(), Checks.body(Checks.A));
        Checks.rule(x, 1, Checks.body(1, 1, Checks.A, 1));
        Checks.due("symbolCount()", x.symbolCount(), 7);
    }

    private static void symbolsHeldBack() {
        ConjunctiveParser x = States.fullBody();
        x.addSymbol(0);
        Checks.due("symbolCount()", x.symbolCount(), 5);
    }
}
