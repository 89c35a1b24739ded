/** Promises 12 to 16. */
public final class GettersTest {
    public static void main(String[] args) {
        parsedFlag();
        refusedCallsKeepTheFlag();
        counts();
        limits();
        Checks.end();
    }

    private static void parsedFlag() {
        ConjunctiveParser x = new ConjunctiveParser(2, 2);
        Checks.due("new", x.isParsed(), false);
        x.clearInput();
        x.clearGrammar();
        Checks.due("cleared, never parsed", x.isParsed(), false);
        x.parse();
        Checks.due("parse()", x.isParsed(), true);
        x.parse();
        Checks.due("parse() twice", x.isParsed(), true);
        x.beginRule(0);
        Checks.due("beginRule", x.isParsed(), false);
        x.parse();
        x.addConjunct();
        Checks.due("addConjunct", x.isParsed(), false);
        x.parse();
        x.addSymbol(1);
        Checks.due("addSymbol of a nonterminal", x.isParsed(), false);
        x.parse();
        x.addSymbol(Checks.A);
        Checks.due("addSymbol of a letter", x.isParsed(), false);
        x.parse();
        x.addLetter(1);
        Checks.due("addLetter", x.isParsed(), false);
        x.parse();
        x.clearInput();
        Checks.due("clearInput", x.isParsed(), false);
        x.parse();
        x.clearInput();
        Checks.due("clearInput of the empty word", x.isParsed(), false);
        x.parse();
        x.clearGrammar();
        Checks.due("clearGrammar", x.isParsed(), false);
        x.parse();
        x.clearGrammar();
        Checks.due("clearGrammar of the empty grammar", x.isParsed(), false);
    }

    private static void refusedCallsKeepTheFlag() {
        ConjunctiveParser x = new ConjunctiveParser(2, 2);
        x.beginRule(2);
        x.addLetter(2);
        Checks.due("refused calls before parse()", x.isParsed(), false);
        x.parse();
        x.beginRule(2);
        x.addConjunct();
        x.addSymbol(0);
        x.addLetter(2);
        x.derives(0, 0, 1);
        x.witnessRule(2, 0, 0);
        x.countDerived(-1);
        x.ruleCount();
        x.conjunctCount();
        x.symbolCount();
        x.inputLength();
        Checks.due("refused calls, queries and getters", x.isParsed(), true);
        Checks.due("isParsed() itself", x.isParsed(), true);
    }

    private static void counts() {
        ConjunctiveParser x = new ConjunctiveParser(2, 2);
        x.beginRule(0);
        x.beginRule(1);
        x.addConjunct();
        x.addConjunct();
        x.addSymbol(0);
        x.addLetter(0);
        x.addLetter(1);
        x.addLetter(1);
        x.addLetter(0);
        x.addLetter(0);
        for (int twice = 0; twice < 2; twice++) {
            Checks.due("ruleCount()", x.ruleCount(), 2);
            Checks.due("conjunctCount()", x.conjunctCount(), 4);
            Checks.due("symbolCount()", x.symbolCount(), 1);
            Checks.due("inputLength()", x.inputLength(), 5);
        }
        x.parse();
        Checks.due("parse()", Checks.counts(x), "2 rules, 4 conjuncts, 1 symbols, 5 letters, parsed true");
    }

    private static void limits() {
        ConjunctiveParser x = new ConjunctiveParser(8, 8);
        for (int k = 0; k < 40; k++) {
            x.beginRule(k % 8);
            x.addConjunct();
            x.addSymbol(k % 8);
            x.addSymbol(16 + k % 8);
            x.addSymbol(k % 8);
            x.addSymbol(16 + k % 8);
            x.addSymbol(k % 8);
            x.addLetter(k % 8);
            int rules = Math.min(16, k + 1);
            int symbols = Math.min(64, 4 * (k + 1));
            Checks.due("round " + k, Checks.counts(x), rules + " rules, " + 2 * rules + " conjuncts, "
                    + symbols + " symbols, " + Math.min(12, k + 1) + " letters, parsed false");
        }
    }
}
