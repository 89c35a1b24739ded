import java.util.function.Consumer;

/**
 * The refusals that derives and witnessRule share. The grammar behind them derives every piece of the word
 * by every nonterminal, so that each refusal comes from the test in hand and not from a missing fact.
 */
final class PieceRefusals {
    interface Query {
        int ask(ConjunctiveParser x, int a, int i, int j);
    }

    private final String name;
    private final Query query;

    private PieceRefusals(String name, Query query) {
        this.name = name;
        this.query = query;
    }

    static void of(String name, Query query) {
        PieceRefusals these = new PieceRefusals(name, query);
        Checks.sentence(name + ": 1. never parsed -> REFUSED", these::neverParsed);
        Checks.sentence(name + ": 1. parsed before a change -> REFUSED", these::parsedBeforeChange);
        Checks.sentence(name + ": 2. a < 0 -> REFUSED", these::nonterminalTooSmall);
        Checks.sentence(name + ": 2. a >= N -> REFUSED", these::nonterminalTooLarge);
        Checks.sentence(name + ": 3. i < 0 -> REFUSED", these::startTooSmall);
        Checks.sentence(name + ": 3. j > n -> REFUSED", these::endTooLarge);
        Checks.sentence(name + ": 3. i > j -> REFUSED", these::startPastEnd);
        Checks.sentence(name + ": 3. n is the current word length", these::currentLength);
        Checks.sentence(name + ": several tests at once -> REFUSED", these::severalAtOnce);
        Checks.sentence(name + ": every a in 0..N-1 is answered", these::nonterminals);
        Checks.sentence(name + ": every 0 <= i <= j <= n is answered", these::pieces);
        these.unchanged("it answers a fact", 2, 1, 2);
        these.unchanged("there is no fact", 2, 0, 1);
        these.unchanged("a is too small", -1, 0, 1);
        these.unchanged("a is too large", 3, 0, 1);
        these.unchanged("i is too small", 0, -1, 1);
        these.unchanged("j is too large", 0, 0, 5);
        these.unchanged("i is past j", 0, 2, 1);
    }

    private void unchanged(String when, int a, int i, int j) {
        Checks.sentence(name + ": it changes nothing when " + when, () -> Unchanged.by(
                name + "(" + a + ", " + i + ", " + j + ")", States::ordinary, x -> query.ask(x, a, i, j)));
    }

    private void refused(String when, ConjunctiveParser x, int a, int i, int j) {
        Checks.due(when + ", " + name + "(" + a + ", " + i + ", " + j + ")", query.ask(x, a, i, j), -1);
    }

    private void answered(String when, ConjunctiveParser x, int a, int i, int j) {
        String call = when + ", " + name + "(" + a + ", " + i + ", " + j + ") refused";
        Checks.due(call, query.ask(x, a, i, j) == -1, false);
    }

    private void neverParsed() {
        refused("a new object", new ConjunctiveParser(1, 1), 0, 0, 0);
        refused("rules and a word", States.ordinary(), 0, 0, 2);
    }

    private void parsedBeforeChange() {
        refusedAfter("beginRule", x -> x.beginRule(0));
        refusedAfter("addConjunct", ConjunctiveParser::addConjunct);
        refusedAfter("addSymbol", x -> x.addSymbol(0));
        refusedAfter("clearGrammar", ConjunctiveParser::clearGrammar);
        refusedAfter("addLetter", x -> x.addLetter(0));
        refusedAfter("clearInput", ConjunctiveParser::clearInput);
    }

    private void refusedAfter(String call, Consumer<ConjunctiveParser> change) {
        ConjunctiveParser x = States.everyPiece(1, 3);
        change.accept(x);
        refused("after " + call, x, 0, 0, 0);
    }

    private void nonterminalTooSmall() {
        for (int n = 1; n <= 8; n++) {
            ConjunctiveParser x = States.everyPiece(n, 3);
            for (int a : Checks.below(0)) {
                refused("N = " + n, x, a, 1, 2);
            }
        }
    }

    private void nonterminalTooLarge() {
        for (int n = 1; n <= 8; n++) {
            ConjunctiveParser x = States.everyPiece(n, 3);
            for (int a : Checks.from(n)) {
                refused("N = " + n, x, a, 1, 2);
            }
        }
    }

    private void startTooSmall() {
        for (int n = 0; n <= 12; n++) {
            ConjunctiveParser x = States.everyPiece(1, n);
            for (int i : Checks.below(0)) {
                for (int j = 0; j <= n; j++) {
                    refused("n = " + n, x, 0, i, j);
                }
            }
        }
    }

    private void endTooLarge() {
        for (int n = 0; n <= 12; n++) {
            ConjunctiveParser x = States.everyPiece(1, n);
            for (int j : Checks.from(n + 1)) {
                for (int i = 0; i <= n; i++) {
                    refused("n = " + n, x, 0, i, j);
                }
                refused("n = " + n, x, 0, j, j);
            }
        }
    }

    private void startPastEnd() {
        for (int n = 0; n <= 12; n++) {
            ConjunctiveParser x = States.everyPiece(1, n);
            for (int j : Checks.below(n + 1)) {
                for (int i : Checks.from(Math.max(0, j + 1))) {
                    refused("n = " + n, x, 0, i, j);
                }
            }
        }
    }

    private void currentLength() {
        ConjunctiveParser x = States.everyPiece(1, 3);
        x.addLetter(0);
        x.parse();
        answered("four letters", x, 0, 0, 4);
        refused("four letters", x, 0, 0, 5);
        Checks.parseOf(x, "a");
        answered("one letter after four", x, 0, 0, 1);
        refused("one letter after four", x, 0, 0, 2);
        Checks.parseOf(x, "");
        answered("no letter after one", x, 0, 0, 0);
        refused("no letter after one", x, 0, 0, 1);
    }

    private void severalAtOnce() {
        int[] wrong = {Integer.MIN_VALUE, -1, 13, Integer.MAX_VALUE};
        for (int a : wrong) {
            for (int i : wrong) {
                for (int j : wrong) {
                    refused("twelve letters", States.everyPiece(8, 12), a, i, j);
                    refused("not parsed", States.ordinary(), a, i, j);
                }
            }
        }
    }

    private void nonterminals() {
        for (int n = 1; n <= 8; n++) {
            ConjunctiveParser x = States.everyPiece(n, 3);
            for (int a = 0; a < n; a++) {
                answered("N = " + n, x, a, 1, 2);
            }
        }
    }

    private void pieces() {
        for (int n = 0; n <= 12; n++) {
            ConjunctiveParser x = States.everyPiece(1, n);
            for (int i = 0; i <= n; i++) {
                for (int j = i; j <= n; j++) {
                    answered("n = " + n, x, 0, i, j);
                }
            }
        }
    }
}
