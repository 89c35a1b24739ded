import java.util.function.Consumer;
import java.util.stream.IntStream;

/** Promise 1: Construction and the start. */
public final class ConstructionTest {
    public static void main(String[] args) {
        Checks.sentence("never fails for any int arguments", ConstructionTest::neverFails);
        Checks.sentence("nonterminals: any value below 1 becomes 1", ConstructionTest::nonterminalsTooSmall);
        Checks.sentence("nonterminals: any value above 8 becomes 8", ConstructionTest::nonterminalsTooLarge);
        Checks.sentence("nonterminals: values 1..8 are kept", ConstructionTest::nonterminalsKept);
        Checks.sentence("N is fixed for the life of the object", ConstructionTest::nonterminalsFixed);
        Checks.sentence("letters: any value below 1 becomes 1", ConstructionTest::lettersTooSmall);
        Checks.sentence("letters: any value above 8 becomes 8", ConstructionTest::lettersTooLarge);
        Checks.sentence("letters: values 1..8 are kept", ConstructionTest::lettersKept);
        Checks.sentence("T is fixed for the life of the object", ConstructionTest::lettersFixed);
        Checks.sentence("at the start: no rules", ConstructionTest::startsWithoutRules);
        Checks.sentence("at the start: no conjuncts", ConstructionTest::startsWithoutConjuncts);
        Checks.sentence("at the start: no symbols", ConstructionTest::startsWithoutSymbols);
        Checks.sentence("at the start: no open rule", ConstructionTest::startsWithoutOpenRule);
        Checks.sentence("at the start: the word is empty", ConstructionTest::startsWithEmptyWord);
        Checks.sentence("at the start: parsed is false", ConstructionTest::startsNotParsed);
        Checks.sentence("every object is its own", ConstructionTest::objectsAreApart);
        Checks.end();
    }

    /** N, as the number of heads that beginRule takes. */
    private static int nonterminalsOf(ConjunctiveParser x) {
        return (int) Checks.ints().filter(head -> {
            x.clearGrammar();
            return x.beginRule(head) != -1;
        }).count();
    }

    /** T, as the number of letters that addLetter takes. */
    private static int lettersOf(ConjunctiveParser x) {
        return (int) Checks.ints().filter(c -> {
            x.clearInput();
            return x.addLetter(c) != -1;
        }).count();
    }

    private static void neverFails() {
        for (int nonterminals : Checks.ints().toArray()) {
            for (int letters : Checks.ints().toArray()) {
                Checks.due("new (" + nonterminals + ", " + letters + "), parse()",
                        new ConjunctiveParser(nonterminals, letters).parse(), 0);
            }
        }
    }

    private static void nonterminalsTooSmall() {
        for (int given : Checks.below(1)) {
            Checks.due("N of new (" + given + ", 3)", nonterminalsOf(new ConjunctiveParser(given, 3)), 1);
        }
    }

    private static void nonterminalsTooLarge() {
        for (int given : Checks.from(9)) {
            Checks.due("N of new (" + given + ", 3)", nonterminalsOf(new ConjunctiveParser(given, 3)), 8);
        }
    }

    private static void nonterminalsKept() {
        for (int given = 1; given <= 8; given++) {
            Checks.due("N of new (" + given + ", 3)", nonterminalsOf(new ConjunctiveParser(given, 3)), given);
        }
    }

    private static void nonterminalsFixed() {
        for (int n = 1; n <= 8; n++) {
            ConjunctiveParser x = new ConjunctiveParser(n, 9 - n);
            liveLong(x);
            Checks.due("N of new (" + n + ", " + (9 - n) + "), later", nonterminalsOf(x), n);
        }
    }

    private static void lettersTooSmall() {
        for (int given : Checks.below(1)) {
            Checks.due("T of new (3, " + given + ")", lettersOf(new ConjunctiveParser(3, given)), 1);
        }
    }

    private static void lettersTooLarge() {
        for (int given : Checks.from(9)) {
            Checks.due("T of new (3, " + given + ")", lettersOf(new ConjunctiveParser(3, given)), 8);
        }
    }

    private static void lettersKept() {
        for (int given = 1; given <= 8; given++) {
            Checks.due("T of new (3, " + given + ")", lettersOf(new ConjunctiveParser(3, given)), given);
        }
    }

    private static void lettersFixed() {
        for (int t = 1; t <= 8; t++) {
            ConjunctiveParser x = new ConjunctiveParser(9 - t, t);
            liveLong(x);
            Checks.due("T of new (" + (9 - t) + ", " + t + "), later", lettersOf(x), t);
        }
    }

    /** Every kind of call, with right and wrong arguments, up to each limit and past it. */
    private static void liveLong(ConjunctiveParser x) {
        for (int k = 0; k < 3; k++) {
            for (int given : Checks.ints().toArray()) {
                x.beginRule(given);
                x.addSymbol(given);
                x.addConjunct();
                x.addLetter(given);
            }
            x.parse();
            x.clearInput();
            x.parse();
            x.clearGrammar();
        }
    }

    private static void eachNew(Consumer<ConjunctiveParser> look) {
        for (int given : IntStream.of(Integer.MIN_VALUE, -1, 0, 1, 5, 8, 9, Integer.MAX_VALUE).toArray()) {
            look.accept(new ConjunctiveParser(given, 8));
            look.accept(new ConjunctiveParser(8, given));
            look.accept(new ConjunctiveParser(given, given));
        }
    }

    private static void startsWithoutRules() {
        eachNew(x -> Checks.due("ruleCount() at the start", x.ruleCount(), 0));
    }

    private static void startsWithoutConjuncts() {
        eachNew(x -> Checks.due("conjunctCount() at the start", x.conjunctCount(), 0));
    }

    private static void startsWithoutSymbols() {
        eachNew(x -> Checks.due("symbolCount() at the start", x.symbolCount(), 0));
    }

    private static void startsWithoutOpenRule() {
        eachNew(x -> Checks.due("addConjunct() at the start", x.addConjunct(), -1));
        eachNew(x -> Checks.due("addSymbol(0) at the start", x.addSymbol(0), -1));
    }

    private static void startsWithEmptyWord() {
        eachNew(x -> Checks.due("inputLength() at the start", x.inputLength(), 0));
        eachNew(x -> Checks.due("the first addLetter(0)", x.addLetter(0), 1));
        eachNew(x -> {
            x.beginRule(0);
            Checks.due("parse() of S -> empty at the start", x.parse(), 1);
        });
    }

    private static void startsNotParsed() {
        eachNew(x -> Checks.due("isParsed() at the start", x.isParsed(), false));
    }

    private static void objectsAreApart() {
        ConjunctiveParser one = States.equalThirds();
        one.parse();
        String before = Checks.view(one);
        ConjunctiveParser other = new ConjunctiveParser(2, 2);
        Checks.rule(other, 1, Checks.body(Checks.B));
        Checks.parseOf(other, "bb");
        Checks.due("calls on another object", Checks.view(one), before);
    }
}
