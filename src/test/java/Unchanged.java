import java.util.function.Consumer;
import java.util.function.Function;
import java.util.function.Supplier;

/**
 * Shows that a call changes nothing: an object that had the call is held against one that never had it, by
 * all that can be asked and by what each possible next call does. So also the open rule, the open conjunct
 * and the letters are seen, which no getter tells. Every look is at a new pair and asks one thing first,
 * since a question that itself changes something would hide the same change by the call.
 */
final class Unchanged {
    private final String call;
    private final Supplier<ConjunctiveParser> state;
    private final Consumer<ConjunctiveParser> act;

    private Unchanged(String call, Supplier<ConjunctiveParser> state, Consumer<ConjunctiveParser> act) {
        this.call = call;
        this.state = state;
        this.act = act;
    }

    static void by(String call, Supplier<ConjunctiveParser> state, Consumer<ConjunctiveParser> act) {
        Supplier<ConjunctiveParser> parsed = () -> {
            ConjunctiveParser x = state.get();
            x.parse();
            return x;
        };
        new Unchanged(call + " before parse()", state, act).look();
        new Unchanged(call + " after parse()", parsed, act).look();
    }

    /** The same, and the call must be refused. */
    static void byRefused(String call, Supplier<ConjunctiveParser> state, Function<ConjunctiveParser, Integer> act) {
        by(call, state, x -> Checks.due(call, act.apply(x), ConjunctiveParser.REFUSED));
    }

    private void look() {
        counts();
        storedFacts();
        grammarAndWord();
    }

    private void counts() {
        compare("ruleCount()", x -> "" + x.ruleCount());
        compare("conjunctCount()", x -> "" + x.conjunctCount());
        compare("symbolCount()", x -> "" + x.symbolCount());
        compare("inputLength()", x -> "" + x.inputLength());
        compare("isParsed()", x -> "" + x.isParsed());
    }

    /** Asks only what is not refused in a parsed state: its N and n are learned from another object. */
    private void storedFacts() {
        ConjunctiveParser other = state.get();
        int n = other.inputLength();
        other.parse();
        int nonterminals = (int) Checks.ints().filter(a -> other.countDerived(a) != -1).count();
        for (int a = 0; a < nonterminals; a++) {
            int head = a;
            compare("the stored D, by countDerived", x -> "" + x.countDerived(head));
        }
        compare("the stored D, by derives", x -> eachPiece(nonterminals, n, x::derives));
        compare("the stored D, by witnessRule", x -> eachPiece(nonterminals, n, x::witnessRule));
    }

    private interface PieceQuery {
        int ask(int a, int i, int j);
    }

    private static String eachPiece(int nonterminals, int n, PieceQuery query) {
        StringBuilder text = new StringBuilder();
        for (int a = 0; a < nonterminals; a++) {
            for (int i = 0; i <= n; i++) {
                for (int j = i; j <= n; j++) {
                    text.append(' ').append(query.ask(a, i, j));
                }
            }
        }
        return text.toString();
    }

    private void grammarAndWord() {
        compare("the word and the rules, by parse()", Unchanged::parsedView);
        compare("the open conjunct, by addSymbol", x -> x.addSymbol(Checks.B) + " " + parsedView(x));
        compare("the open rule, by addConjunct",
                x -> x.addConjunct() + " " + x.addSymbol(Checks.B) + " " + parsedView(x));
        compare("the next rule, by beginRule",
                x -> x.beginRule(0) + " " + x.addSymbol(Checks.B) + " " + parsedView(x));
        compare("the end of the word, by addLetter", x -> x.addLetter(0) + " " + parsedView(x));
        compare("the rules on the empty word, by clearInput", x -> {
            x.clearInput();
            return parsedView(x);
        });
        compare("the word under another grammar, by clearGrammar", x -> {
            x.clearGrammar();
            Checks.rule(x, 0, Checks.body(Checks.A));
            return parsedView(x);
        });
    }

    private void compare(String what, Function<ConjunctiveParser, String> look) {
        ConjunctiveParser touched = state.get();
        act.accept(touched);
        Checks.due(call + ": " + what, look.apply(touched), look.apply(state.get()));
    }

    private static String parsedView(ConjunctiveParser x) {
        return x.parse() + " " + Checks.view(x);
    }
}
