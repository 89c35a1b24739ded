import java.util.function.Consumer;
import java.util.function.Function;
import java.util.function.Supplier;

/**
 * Shows that a call changes nothing: an object that had the call is held against one that never had it, by
 * all that can be asked at once and by what each possible next call does. So also the open rule, the open
 * conjunct and the letters are seen, which no getter tells.
 */
final class Unchanged {
    private Unchanged() {
    }

    static void by(String call, Supplier<ConjunctiveParser> state, Consumer<ConjunctiveParser> act) {
        Supplier<ConjunctiveParser> parsed = () -> {
            ConjunctiveParser x = state.get();
            x.parse();
            return x;
        };
        inOneState(call + " before parse()", state, act);
        inOneState(call + " after parse()", parsed, act);
    }

    /** The same, and the call must be refused. */
    static void byRefused(String call, Supplier<ConjunctiveParser> state, Function<ConjunctiveParser, Integer> act) {
        by(call, state, x -> Checks.due(call, act.apply(x), ConjunctiveParser.REFUSED));
    }

    private static void inOneState(String call, Supplier<ConjunctiveParser> state, Consumer<ConjunctiveParser> act) {
        compare(call + ": the counts", state, act, Checks::counts);
        compare(call + ": parsed", state, act, x -> String.valueOf(x.isParsed()));
        compare(call + ": the stored D", state, act, Checks::view);
        compare(call + ": the word and the rules, by parse()", state, act, x -> parsedView(x));
        compare(call + ": the open conjunct, by addSymbol", state, act,
                x -> x.addSymbol(Checks.B) + " " + parsedView(x));
        compare(call + ": the open rule, by addConjunct", state, act,
                x -> x.addConjunct() + " " + x.addSymbol(Checks.B) + " " + parsedView(x));
        compare(call + ": the next rule, by beginRule", state, act,
                x -> x.beginRule(0) + " " + x.addSymbol(Checks.B) + " " + parsedView(x));
        compare(call + ": the end of the word, by addLetter", state, act,
                x -> x.addLetter(0) + " " + parsedView(x));
        compare(call + ": the rules on the empty word, by clearInput", state, act, x -> {
            x.clearInput();
            return parsedView(x);
        });
        compare(call + ": the word under another grammar, by clearGrammar", state, act, x -> {
            x.clearGrammar();
            Checks.rule(x, 0, Checks.body(Checks.A));
            return parsedView(x);
        });
    }

    private static void compare(String what, Supplier<ConjunctiveParser> state, Consumer<ConjunctiveParser> act,
            Function<ConjunctiveParser, String> look) {
        ConjunctiveParser touched = state.get();
        act.accept(touched);
        ConjunctiveParser untouched = state.get();
        Checks.due(what, look.apply(touched), look.apply(untouched));
    }

    private static String parsedView(ConjunctiveParser x) {
        return x.parse() + " " + Checks.view(x);
    }
}
