/** Promise 6. */
public final class AddLetterTest {
    public static void main(String[] args) {
        wrongLetters();
        longestWord();
        order();
        Checks.end();
    }

    private static void wrongLetters() {
        for (int t = 1; t <= 8; t++) {
            ConjunctiveParser x = new ConjunctiveParser(2, t);
            Checks.rule(x, 0, Checks.body(Checks.A, Checks.A));
            Checks.parseOf(x, "aa");
            String before = Checks.view(x);
            for (int c : Checks.manyInts()) {
                if (c < 0 || c >= t) {
                    Checks.due("T = " + t + ", addLetter(" + c + ")", x.addLetter(c), -1);
                    Checks.due("T = " + t + ", addLetter(" + c + ")", Checks.view(x), before);
                }
            }
            for (int c = 0; c < t; c++) {
                Checks.due("T = " + t + ", addLetter(" + c + ")", x.addLetter(c), 3 + c);
                Checks.due("addLetter", Checks.counts(x),
                        "1 rules, 1 conjuncts, 2 symbols, " + (3 + c) + " letters, parsed false");
                x.parse();
            }
        }
    }

    private static void longestWord() {
        ConjunctiveParser x = new ConjunctiveParser(1, 2);
        Checks.rule(x, 0, Checks.body(Checks.A, 0));
        Checks.rule(x, 0, Checks.body(Checks.A));
        for (int p = 0; p < 12; p++) {
            Checks.due("letter " + p, x.addLetter(0), p + 1);
        }
        Checks.due("parse()", x.parse(), 1);
        String before = Checks.view(x);
        Checks.due("letter past the most", x.addLetter(0), -1);
        Checks.due("letter past the most", x.addLetter(1), -1);
        Checks.due("letter past the most", Checks.view(x), before);
        Checks.due("parse() again", x.parse(), 1);
    }

    /** Each place of the longest word is told apart from its neighbours. */
    private static void order() {
        ConjunctiveParser x = new ConjunctiveParser(8, 8);
        for (int a = 0; a < 8; a++) {
            Checks.rule(x, a, Checks.body(Checks.A + a));
        }
        String letters = "hcabgfedabch";
        Checks.parseOf(x, letters);
        for (int p = 0; p < 12; p++) {
            for (int a = 0; a < 8; a++) {
                int want = letters.charAt(p) - 'a' == a ? 1 : 0;
                Checks.due("letter " + a + " at " + p, x.derives(a, p, p + 1), want);
            }
        }
    }
}
