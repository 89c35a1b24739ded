import java.util.function.Supplier;

/** Promise 4: addSymbol. */
public final class AddSymbolTest {
    public static void main(String[] args) {
        Checks.sentence("1. ruleCount() == 0 at the start -> REFUSED", () -> refusedForAll(States::noRules));
        Checks.sentence("1. ruleCount() == 0 after clearGrammar() -> REFUSED",
                () -> refusedForAll(States::clearedGrammar));
        Checks.sentence("2. any negative int -> REFUSED", AddSymbolTest::negative);
        Checks.sentence("2. any int from N to TERMINAL_BASE - 1 -> REFUSED", AddSymbolTest::pastNonterminals);
        Checks.sentence("2. any int from TERMINAL_BASE + T up -> REFUSED", AddSymbolTest::pastLetters);
        Checks.sentence("2. 0 <= sym < N is taken", AddSymbolTest::nonterminals);
        Checks.sentence("2. TERMINAL_BASE <= sym < TERMINAL_BASE + T is taken", AddSymbolTest::letters);
        Checks.sentence("3. the open conjunct has MAX_BODY symbols -> REFUSED", AddSymbolTest::bodyFull);
        Checks.sentence("3. with one symbol fewer it is taken", AddSymbolTest::bodyNearlyFull);
        Checks.sentence("3. an earlier full conjunct does not count", AddSymbolTest::earlierBodyFull);
        Checks.sentence("4. symbolCount() == MAX_SYMBOLS -> REFUSED", AddSymbolTest::symbolsFull);
        Checks.sentence("4. with one symbol fewer it is taken", AddSymbolTest::symbolsNearlyFull);
        Checks.sentence("it is not refused for full rules, conjuncts or word", AddSymbolTest::otherLimits);
        Checks.sentence("several tests at once -> REFUSED", AddSymbolTest::severalAtOnce);
        unchanged("by 1, at the start", States::noRules, Checks.A);
        unchanged("by 1, after clearGrammar()", States::clearedGrammar, 0);
        unchanged("by 2, a negative int", States::ordinary, -1);
        unchanged("by 2, the least int", States::ordinary, Integer.MIN_VALUE);
        unchanged("by 2, N", States::ordinary, 3);
        unchanged("by 2, TERMINAL_BASE - 1", States::ordinary, 15);
        unchanged("by 2, TERMINAL_BASE + T", States::ordinary, 18);
        unchanged("by 2, the greatest int", States::ordinary, Integer.MAX_VALUE);
        unchanged("by 3", States::fullBody, Checks.A);
        unchanged("by 4", States::fullOfSymbols, Checks.A);
        unchanged("with every limit reached", States::fullOfAll, 0);
        Checks.sentence("it answers the open conjunct's new length, 1..MAX_BODY", AddSymbolTest::answers);
        Checks.sentence("symbolCount() grows by 1", AddSymbolTest::symbolCountGrows);
        Checks.sentence("ruleCount() is unchanged", AddSymbolTest::ruleCountStays);
        Checks.sentence("conjunctCount() is unchanged", AddSymbolTest::conjunctCountStays);
        Checks.sentence("it appends to the end of the open conjunct", AddSymbolTest::order);
        Checks.sentence("all other conjuncts are unchanged", AddSymbolTest::otherConjunctsStay);
        Checks.sentence("the word is unchanged", AddSymbolTest::wordStays);
        Checks.sentence("parsed becomes false", AddSymbolTest::notParsed);
        Checks.end();
    }

    private static void unchanged(String how, Supplier<ConjunctiveParser> state, int sym) {
        Checks.sentence("refused " + how + ", it changes nothing",
                () -> Unchanged.byRefused("addSymbol(" + sym + ")", state, x -> x.addSymbol(sym)));
    }

    private static void refusedForAll(Supplier<ConjunctiveParser> state) {
        for (int sym : new int[] {0, 1, 2, Checks.A, Checks.B}) {
            Checks.due("addSymbol(" + sym + ")", state.get().addSymbol(sym), -1);
        }
    }

    /** What addSymbol(sym) answers as the first symbol of a conjunct. */
    private static int first(int n, int t, int sym) {
        ConjunctiveParser x = new ConjunctiveParser(n, t);
        x.beginRule(0);
        return x.addSymbol(sym);
    }

    private static void forEachFirst(int n, int t, int[] syms, int want) {
        for (int sym : syms) {
            Checks.due("N = " + n + ", T = " + t + ", addSymbol(" + sym + ")", first(n, t, sym), want);
        }
    }

    private static void negative() {
        for (int n = 1; n <= 8; n++) {
            for (int t = 1; t <= 8; t++) {
                forEachFirst(n, t, Checks.below(0), -1);
            }
        }
    }

    private static void pastNonterminals() {
        for (int n = 1; n <= 8; n++) {
            for (int sym = n; sym <= 15; sym++) {
                forEachFirst(n, 9 - n, Checks.body(sym), -1);
                forEachFirst(n, n, Checks.body(sym), -1);
            }
        }
    }

    private static void pastLetters() {
        for (int t = 1; t <= 8; t++) {
            forEachFirst(9 - t, t, Checks.from(16 + t), -1);
            forEachFirst(t, t, Checks.from(16 + t), -1);
        }
    }

    private static void nonterminals() {
        for (int n = 1; n <= 8; n++) {
            for (int sym = 0; sym < n; sym++) {
                forEachFirst(n, 9 - n, Checks.body(sym), 1);
            }
        }
    }

    private static void letters() {
        for (int t = 1; t <= 8; t++) {
            for (int sym = 16; sym < 16 + t; sym++) {
                forEachFirst(9 - t, t, Checks.body(sym), 1);
            }
        }
    }

    private static void bodyFull() {
        for (int sym : new int[] {0, 1, 2, Checks.A, Checks.B}) {
            Checks.due("a fifth symbol " + sym, States.fullBody().addSymbol(sym), -1);
        }
    }

    private static void bodyNearlyFull() {
        ConjunctiveParser x = new ConjunctiveParser(1, 1);
        Checks.rule(x, 0, Checks.body(0, 0, 0));
        Checks.due("a fourth symbol", x.addSymbol(Checks.A), 4);
    }

    private static void earlierBodyFull() {
        ConjunctiveParser x = States.fullBody();
        x.addConjunct();
        Checks.due("a symbol in the next conjunct", x.addSymbol(0), 1);
        ConjunctiveParser y = States.fullBody();
        y.beginRule(0);
        Checks.due("a symbol in the next rule", y.addSymbol(0), 1);
    }

    private static void symbolsFull() {
        ConjunctiveParser x = States.fullOfSymbols();
        Checks.due("a 65th symbol, in a body of one", x.addSymbol(Checks.A), -1);
        x.addConjunct();
        Checks.due("a 65th symbol, in an empty conjunct", x.addSymbol(Checks.A), -1);
        x.beginRule(0);
        Checks.due("a 65th symbol, in a new rule", x.addSymbol(0), -1);
    }

    private static void symbolsNearlyFull() {
        ConjunctiveParser x = new ConjunctiveParser(1, 1);
        Checks.rule(x, 0, States.equalBodies(21, Checks.body(0, 0, 0)));
        x.addConjunct();
        Checks.due("a 64th symbol", x.addSymbol(0), 1);
    }

    private static void otherLimits() {
        Checks.due("addSymbol(A) after 16 rules", States.fullOfRules().addSymbol(Checks.A), 2);
        Checks.due("addSymbol(A) after 32 conjuncts", States.fullOfConjuncts().addSymbol(Checks.A), 2);
        Checks.due("addSymbol(A) after 12 letters", States.fullWord().addSymbol(Checks.A), 3);
    }

    private static void severalAtOnce() {
        for (int sym : new int[] {-1, 3, 15, 18, Integer.MIN_VALUE, Integer.MAX_VALUE}) {
            Checks.due("addSymbol(" + sym + ") without a rule", States.noRules().addSymbol(sym), -1);
            Checks.due("addSymbol(" + sym + ") to a full body", States.fullBody().addSymbol(sym), -1);
            Checks.due("addSymbol(" + sym + ") to full symbols", States.fullOfSymbols().addSymbol(sym), -1);
        }
        ConjunctiveParser x = new ConjunctiveParser(1, 1);
        Checks.rule(x, 0, States.equalBodies(16, Checks.body(0, 0, 0, 0)));
        Checks.due("a fifth symbol that is the 65th", x.addSymbol(0), -1);
    }

    private static void answers() {
        ConjunctiveParser x = new ConjunctiveParser(2, 2);
        for (int c = 0; c < 16; c++) {
            if (c % 2 == 0) {
                x.beginRule(0);
            } else {
                x.addConjunct();
            }
            Checks.due("first symbol", x.addSymbol(0), 1);
            Checks.due("second symbol", x.addSymbol(Checks.A), 2);
            Checks.due("third symbol", x.addSymbol(1), 3);
            Checks.due("fourth symbol", x.addSymbol(Checks.B), 4);
        }
    }

    private static void symbolCountGrows() {
        ConjunctiveParser x = new ConjunctiveParser(1, 1);
        x.beginRule(0);
        for (int k = 0; k < 64; k++) {
            if (k % 4 == 0 && k > 0) {
                x.addConjunct();
            }
            x.addSymbol(k % 2 == 0 ? 0 : Checks.A);
            Checks.due("symbolCount() after symbol " + k, x.symbolCount(), k + 1);
        }
    }

    private static void ruleCountStays() {
        ConjunctiveParser x = States.ordinary();
        x.addSymbol(Checks.B);
        Checks.due("ruleCount()", x.ruleCount(), 3);
    }

    private static void conjunctCountStays() {
        ConjunctiveParser x = States.ordinary();
        x.addSymbol(Checks.B);
        Checks.due("conjunctCount()", x.conjunctCount(), 4);
    }

    private static void order() {
        ConjunctiveParser x = new ConjunctiveParser(2, 3);
        Checks.rule(x, 0, Checks.body(Checks.C, 1, Checks.A, Checks.B));
        Checks.rule(x, 1, Checks.body(Checks.B));
        Checks.due("parse of cbab", Checks.parseOf(x, "cbab"), 1);
        Checks.due("parse of babc", Checks.parseOf(x, "babc"), 0);
        Checks.due("parse of cabb", Checks.parseOf(x, "cabb"), 0);
        Checks.due("parse of cbba", Checks.parseOf(x, "cbba"), 0);
    }

    private static void otherConjunctsStay() {
        ConjunctiveParser x = new ConjunctiveParser(3, 2);
        Checks.rule(x, 1, Checks.body(Checks.A));
        Checks.rule(x, 0, Checks.body(Checks.A), Checks.body(2), Checks.body(2));
        x.addSymbol(2);
        Checks.rule(x, 2, Checks.body());
        Checks.rule(x, 2, Checks.body(Checks.A));
        Checks.parseOf(x, "aa");
        Checks.due("a & C & CC, on a", x.derives(0, 0, 1), 1);
        Checks.due("a & C & CC, on aa", x.derives(0, 0, 2), 0);
        Checks.due("the rule before, on a", x.derives(1, 0, 1), 1);
    }

    private static void wordStays() {
        ConjunctiveParser x = new ConjunctiveParser(2, 2);
        Checks.word(x, "abbabaabbaba");
        Checks.rule(x, 1, Checks.body(Checks.B));
        Checks.due("inputLength()", x.inputLength(), 12);
        x.parse();
        Checks.dueWhereB(x, 1, "abbabaabbaba");
    }

    private static void notParsed() {
        ConjunctiveParser x = new ConjunctiveParser(2, 2);
        x.beginRule(0);
        for (int sym : new int[] {1, Checks.A, 0, Checks.B}) {
            x.parse();
            x.addSymbol(sym);
            Checks.due("isParsed() after addSymbol(" + sym + ")", x.isParsed(), false);
        }
    }
}
