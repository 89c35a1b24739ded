import java.util.function.Consumer;
import java.util.function.Supplier;

/** Promise 12: isParsed. */
public final class IsParsedTest {
    public static void main(String[] args) {
        Checks.sentence("false before the first parse()", IsParsedTest::beforeFirst);
        Checks.sentence("true after parse()", IsParsedTest::afterParse);
        Checks.sentence("true after a second parse()", IsParsedTest::afterSecond);
        Checks.sentence("true again after a change and parse()", IsParsedTest::afterChangeAndParse);

        makesFalse("beginRule", States::ordinary, x -> x.beginRule(0));
        makesFalse("addConjunct", States::ordinary, ConjunctiveParser::addConjunct);
        makesFalse("addSymbol of a nonterminal", States::ordinary, x -> x.addSymbol(0));
        makesFalse("addSymbol of a letter", States::ordinary, x -> x.addSymbol(16));
        makesFalse("addLetter", States::ordinary, x -> x.addLetter(0));
        makesFalse("clearGrammar", States::ordinary, ConjunctiveParser::clearGrammar);
        makesFalse("clearGrammar of an empty grammar", States::noRules, ConjunctiveParser::clearGrammar);
        makesFalse("clearInput", States::ordinary, ConjunctiveParser::clearInput);
        makesFalse("clearInput of an empty word", () -> new ConjunctiveParser(1, 1), ConjunctiveParser::clearInput);

        leaves("a refused beginRule, head too small", States::ordinary, x -> x.beginRule(-1));
        leaves("a refused beginRule, head too large", States::ordinary, x -> x.beginRule(3));
        leaves("a refused beginRule, rules full", States::fullOfRules, x -> x.beginRule(0));
        leaves("a refused beginRule, conjuncts full", States::fullOfConjuncts, x -> x.beginRule(0));
        leaves("a refused addConjunct, no rule", States::noRules, ConjunctiveParser::addConjunct);
        leaves("a refused addConjunct, conjuncts full", States::fullOfConjuncts, ConjunctiveParser::addConjunct);
        leaves("a refused addSymbol, no rule", States::noRules, x -> x.addSymbol(0));
        leaves("a refused addSymbol, no symbol", States::ordinary, x -> x.addSymbol(3));
        leaves("a refused addSymbol, body full", States::fullBody, x -> x.addSymbol(0));
        leaves("a refused addSymbol, symbols full", States::fullOfSymbols, x -> x.addSymbol(0));
        leaves("a refused addLetter, c too small", States::ordinary, x -> x.addLetter(-1));
        leaves("a refused addLetter, c too large", States::ordinary, x -> x.addLetter(2));
        leaves("a refused addLetter, word full", States::fullWord, x -> x.addLetter(0));
        leaves("derives", States::ordinary, x -> x.derives(0, 0, 2));
        leaves("a refused derives", States::ordinary, x -> x.derives(0, 0, 5));
        leaves("witnessRule", States::ordinary, x -> x.witnessRule(0, 0, 2));
        leaves("a refused witnessRule", States::ordinary, x -> x.witnessRule(0, 0, 4));
        leaves("countDerived", States::ordinary, x -> x.countDerived(0));
        leaves("a refused countDerived", States::ordinary, x -> x.countDerived(3));
        leaves("inputLength", States::ordinary, ConjunctiveParser::inputLength);
        leaves("ruleCount", States::ordinary, ConjunctiveParser::ruleCount);
        leaves("conjunctCount", States::ordinary, ConjunctiveParser::conjunctCount);
        leaves("symbolCount", States::ordinary, ConjunctiveParser::symbolCount);
        leaves("isParsed itself", States::ordinary, ConjunctiveParser::isParsed);
        Checks.sentence("it changes nothing",
                () -> Unchanged.by("isParsed()", States::ordinary, ConjunctiveParser::isParsed));
        Checks.end();
    }

    private static void makesFalse(String call, Supplier<ConjunctiveParser> state, Consumer<ConjunctiveParser> act) {
        Checks.sentence("false after " + call, () -> {
            ConjunctiveParser x = state.get();
            x.parse();
            act.accept(x);
            Checks.due("isParsed() after " + call, x.isParsed(), false);
        });
    }

    private static void leaves(String call, Supplier<ConjunctiveParser> state, Consumer<ConjunctiveParser> act) {
        Checks.sentence("as it is after " + call, () -> {
            ConjunctiveParser x = state.get();
            act.accept(x);
            Checks.due("isParsed() before parse(), after " + call, x.isParsed(), false);
            x.parse();
            act.accept(x);
            Checks.due("isParsed() after parse() and " + call, x.isParsed(), true);
        });
    }

    private static void beforeFirst() {
        Checks.due("a new object", new ConjunctiveParser(1, 1).isParsed(), false);
        Checks.due("rules and a word", States.ordinary().isParsed(), false);
        Checks.due("cleared rules and a word", States.clearedGrammar().isParsed(), false);
    }

    private static void afterParse() {
        ConjunctiveParser accepted = States.equalThirds();
        accepted.parse();
        Checks.due("after ACCEPT", accepted.isParsed(), true);
        ConjunctiveParser rejected = States.noRules();
        rejected.parse();
        Checks.due("after REJECT", rejected.isParsed(), true);
    }

    private static void afterSecond() {
        ConjunctiveParser x = States.ordinary();
        x.parse();
        x.parse();
        Checks.due("isParsed()", x.isParsed(), true);
    }

    private static void afterChangeAndParse() {
        ConjunctiveParser x = States.ordinary();
        x.parse();
        x.addLetter(0);
        x.parse();
        Checks.due("isParsed()", x.isParsed(), true);
    }
}
