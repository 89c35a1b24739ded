/** Promise 4. */
public final class AddSymbolTest {
    public static void main(String[] args) {
        noOpenRule();
        symbolsAndOthers();
        longestBody();
        mostSymbols();
        order();
        earlierConjunctsStay();
        Checks.end();
    }

    private static void noOpenRule() {
        ConjunctiveParser x = new ConjunctiveParser(2, 2);
        Checks.parseOf(x, "ab");
        String before = Checks.view(x);
        Checks.due("without a rule", x.addSymbol(0), -1);
        Checks.due("without a rule", x.addSymbol(Checks.A), -1);
        Checks.due("without a rule", Checks.view(x), before);
        Checks.rule(x, 0, Checks.body(Checks.A));
        x.clearGrammar();
        x.parse();
        Checks.due("after clearGrammar()", x.addSymbol(Checks.A), -1);
        Checks.due("after clearGrammar()", Checks.view(x), before);
    }

    private static void symbolsAndOthers() {
        for (int n = 1; n <= 8; n++) {
            for (int t = 1; t <= 8; t++) {
                for (int sym : Checks.manyInts()) {
                    oneSymbol(n, t, sym);
                }
            }
        }
    }

    private static void oneSymbol(int n, int t, int sym) {
        String call = "N = " + n + ", T = " + t + ", addSymbol(" + sym + ")";
        boolean symbol = sym >= 0 && sym < n || sym >= 16 && sym < 16 + t;
        ConjunctiveParser x = new ConjunctiveParser(n, t);
        Checks.rule(x, 0, Checks.body(Checks.A));
        Checks.due(call + " after parse()", Checks.parseOf(x, "a"), 1);
        String before = Checks.view(x);
        Checks.due(call, x.addSymbol(sym), symbol ? 2 : -1);
        if (symbol) {
            Checks.due(call, Checks.counts(x), "1 rules, 1 conjuncts, 2 symbols, 1 letters, parsed false");
        } else {
            Checks.due(call, Checks.view(x), before);
        }
    }

    private static void longestBody() {
        ConjunctiveParser x = new ConjunctiveParser(1, 2);
        Checks.rule(x, 0, Checks.body(Checks.A, Checks.B, Checks.A, Checks.B));
        Checks.due("parse of abab", Checks.parseOf(x, "abab"), 1);
        String before = Checks.view(x);
        Checks.due("fifth symbol", x.addSymbol(Checks.A), -1);
        Checks.due("fifth symbol, no letter", x.addSymbol(0), -1);
        Checks.due("fifth symbol", Checks.view(x), before);
        Checks.due("parse() again", x.parse(), 1);
        x.addConjunct();
        Checks.due("the next conjunct has room", x.addSymbol(0), 1);
    }

    private static void mostSymbols() {
        ConjunctiveParser x = new ConjunctiveParser(1, 1);
        x.beginRule(0);
        for (int k = 0; k < 64; k++) {
            if (k > 0 && k % 3 == 0) {
                x.addConjunct();
            }
            Checks.due("symbol " + k, x.addSymbol(Checks.A), k % 3 + 1);
        }
        Checks.due("symbolCount()", x.symbolCount(), 64);
        Checks.parseOf(x, "aaa");
        String before = Checks.view(x);
        Checks.due("symbol past the most, in a body with room", x.addSymbol(Checks.A), -1);
        Checks.due("symbol past the most", Checks.view(x), before);
        x.addConjunct();
        Checks.due("symbol past the most, in an empty body", x.addSymbol(Checks.A), -1);
        Checks.due("symbolCount()", x.symbolCount(), 64);
        x.clearGrammar();
        x.beginRule(0);
        Checks.due("after clearGrammar()", x.addSymbol(Checks.A), 1);
    }

    private static void order() {
        ConjunctiveParser x = new ConjunctiveParser(2, 3);
        Checks.rule(x, 0, Checks.body(Checks.C, 1, Checks.A));
        Checks.rule(x, 1, Checks.body(Checks.B));
        Checks.due("parse of cba", Checks.parseOf(x, "cba"), 1);
        Checks.due("parse of abc", Checks.parseOf(x, "abc"), 0);
        Checks.due("parse of cab", Checks.parseOf(x, "cab"), 0);
    }

    private static void earlierConjunctsStay() {
        ConjunctiveParser x = new ConjunctiveParser(2, 2);
        Checks.rule(x, 0, Checks.body(Checks.A), Checks.body(1));
        Checks.rule(x, 1, Checks.body(Checks.A));
        x.addSymbol(Checks.B);
        Checks.due("only the open conjunct grows", Checks.parseOf(x, "ab"), 0);
        Checks.due("derives(1, 0, 2)", x.derives(1, 0, 2), 1);
        Checks.due("derives(1, 0, 1)", x.derives(1, 0, 1), 0);
    }
}
