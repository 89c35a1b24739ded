/** Promise 8. */
public final class ParseTest {
    public static void main(String[] args) {
        noRules();
        emptyWord();
        equalThirds();
        leastMeaning();
        chains();
        emptyConjuncts();
        emptyNonterminalsInside();
        leftAndDoubleRecursion();
        intersectionOfSplits();
        startSymbolOnly();
        again();
        Checks.end();
    }

    private static void noRules() {
        ConjunctiveParser x = new ConjunctiveParser(8, 8);
        Checks.due("no rules, no word", x.parse(), 0);
        Checks.due("isParsed()", x.isParsed(), true);
        Checks.due("no rules", Checks.parseOf(x, "abcdefghabcd"), 0);
        for (int a = 0; a < 8; a++) {
            Checks.due("countDerived(" + a + ")", x.countDerived(a), 0);
        }
    }

    private static void emptyWord() {
        ConjunctiveParser x = new ConjunctiveParser(2, 1);
        Checks.rule(x, 0, Checks.body(Checks.A));
        Checks.due("a on the empty word", x.parse(), 0);
        Checks.rule(x, 0, Checks.body(1, 1));
        Checks.due("BB on the empty word", x.parse(), 0);
        Checks.rule(x, 1, Checks.body());
        Checks.due("BB with B empty, on the empty word", x.parse(), 1);
        Checks.due("countDerived(0)", x.countDerived(0), 1);
        Checks.due("derives(0, 0, 0)", x.derives(0, 0, 0), 1);
    }

    private static void equalThirds() {
        ConjunctiveParser x = Checks.equalThirds();
        for (int a = 0; a <= 4; a++) {
            for (int b = 0; b <= 4; b++) {
                for (int c = 0; c <= 4; c++) {
                    String letters = "a".repeat(a) + "b".repeat(b) + "c".repeat(c);
                    int want = a == b && b == c ? 1 : 0;
                    Checks.due("parse of '" + letters + "'", Checks.parseOf(x, letters), want);
                }
            }
        }
        Checks.due("parse of abcabc", Checks.parseOf(x, "abcabc"), 0);
    }

    private static void leastMeaning() {
        ConjunctiveParser x = new ConjunctiveParser(3, 2);
        Checks.rule(x, 0, Checks.body(0), Checks.body(Checks.A));
        Checks.rule(x, 1, Checks.body(2));
        Checks.rule(x, 2, Checks.body(1));
        Checks.rule(x, 2, Checks.body(2, 2));
        Checks.due("A -> A & a", Checks.parseOf(x, "a"), 0);
        for (int a = 0; a < 3; a++) {
            Checks.due("countDerived(" + a + ")", x.countDerived(a), 0);
        }
        Checks.rule(x, 0, Checks.body(Checks.A));
        Checks.due("A -> A & a, A -> a", x.parse(), 1);
        Checks.due("its witness", x.witnessRule(0, 0, 1), 0);
    }

    /** Facts that pass from rule to rule against the order of the rules, and along it. */
    private static void chains() {
        ConjunctiveParser down = new ConjunctiveParser(8, 1);
        ConjunctiveParser up = new ConjunctiveParser(8, 1);
        for (int a = 0; a < 7; a++) {
            Checks.rule(down, a, Checks.body(a + 1));
        }
        Checks.rule(down, 7, Checks.body(Checks.A));
        Checks.rule(up, 7, Checks.body(Checks.A));
        for (int a = 6; a >= 0; a--) {
            Checks.rule(up, a, Checks.body(a + 1));
        }
        Checks.due("chain down", Checks.parseOf(down, "a"), 1);
        Checks.due("chain up", Checks.parseOf(up, "a"), 1);

        ConjunctiveParser ring = new ConjunctiveParser(8, 1);
        for (int a = 0; a < 7; a++) {
            Checks.rule(ring, a, Checks.body(a + 1));
        }
        Checks.rule(ring, 7, Checks.body(Checks.A, 0));
        Checks.rule(ring, 7, Checks.body(0, Checks.A));
        Checks.rule(ring, 7, Checks.body());
        Checks.due("a ring of eight", Checks.parseOf(ring, "a".repeat(12)), 1);
        for (int a = 0; a < 8; a++) {
            Checks.due("countDerived(" + a + ")", ring.countDerived(a), 91);
        }
    }

    private static void emptyConjuncts() {
        ConjunctiveParser x = new ConjunctiveParser(3, 2);
        Checks.rule(x, 0, Checks.body(1), Checks.body());
        Checks.rule(x, 1, Checks.body(Checks.A, 1));
        Checks.rule(x, 1, Checks.body());
        Checks.rule(x, 2, Checks.body(), Checks.body(Checks.A));
        Checks.due("B & empty, on aa", Checks.parseOf(x, "aa"), 0);
        Checks.due("empty pieces alone", x.countDerived(0), 3);
        Checks.due("derives(0, 2, 2)", x.derives(0, 2, 2), 1);
        Checks.due("empty & a", x.countDerived(2), 0);
        Checks.due("B & empty, on nothing", Checks.parseOf(x, ""), 1);
    }

    private static void emptyNonterminalsInside() {
        ConjunctiveParser x = new ConjunctiveParser(2, 2);
        Checks.rule(x, 0, Checks.body(1, Checks.A, 1, Checks.B));
        Checks.rule(x, 1, Checks.body());
        Checks.rule(x, 1, Checks.body(Checks.B));
        Checks.due("parse of ab", Checks.parseOf(x, "ab"), 1);
        Checks.due("parse of bab", Checks.parseOf(x, "bab"), 1);
        Checks.due("parse of babb", Checks.parseOf(x, "babb"), 1);
        Checks.due("parse of abb", Checks.parseOf(x, "abb"), 1);
        Checks.due("parse of abbb", Checks.parseOf(x, "abbb"), 0);
        Checks.due("parse of ba", Checks.parseOf(x, "ba"), 0);
    }

    private static void leftAndDoubleRecursion() {
        ConjunctiveParser x = new ConjunctiveParser(1, 2);
        Checks.rule(x, 0, Checks.body(0, 0));
        Checks.rule(x, 0, Checks.body(Checks.A, 0, Checks.B));
        Checks.rule(x, 0, Checks.body());
        Checks.due("brackets", Checks.parseOf(x, "aabbabaababb"), 1);
        Checks.due("brackets, not closed", Checks.parseOf(x, "aabbabaabab"), 0);
        Checks.due("brackets, turned", Checks.parseOf(x, "baab"), 0);

        ConjunctiveParser y = new ConjunctiveParser(1, 2);
        Checks.rule(y, 0, Checks.body(0, Checks.B));
        Checks.rule(y, 0, Checks.body(Checks.A));
        Checks.due("left recursion", Checks.parseOf(y, "abbbbbbbbbbb"), 1);
        Checks.due("left recursion", Checks.parseOf(y, "abbba"), 0);
    }

    /** Both conjuncts must match the same piece, and each may split it in its own way. */
    private static void intersectionOfSplits() {
        ConjunctiveParser x = new ConjunctiveParser(3, 2);
        Checks.rule(x, 0, Checks.body(1, 2), Checks.body(2, 1));
        Checks.rule(x, 1, Checks.body(Checks.A));
        Checks.rule(x, 1, Checks.body(Checks.A, Checks.A));
        Checks.rule(x, 2, Checks.body(Checks.A));
        Checks.rule(x, 2, Checks.body(Checks.A, Checks.B, Checks.A));
        Checks.due("parse of aa", Checks.parseOf(x, "aa"), 1);
        Checks.due("parse of aaa", Checks.parseOf(x, "aaa"), 1);
        Checks.due("parse of aaba: one conjunct alone", Checks.parseOf(x, "aaba"), 0);
        Checks.due("parse of abaa: the other alone", Checks.parseOf(x, "abaa"), 0);
        Checks.due("derives(0, 2, 4)", x.derives(0, 2, 4), 1);
    }

    private static void startSymbolOnly() {
        ConjunctiveParser x = new ConjunctiveParser(2, 1);
        Checks.rule(x, 1, Checks.body(Checks.A, Checks.A));
        Checks.due("another head derives the word", Checks.parseOf(x, "aa"), 0);
        Checks.rule(x, 0, Checks.body(Checks.A));
        Checks.due("a piece is not the word", x.parse(), 0);
        Checks.rule(x, 0, Checks.body(1));
        Checks.due("the whole word", x.parse(), 1);
    }

    private static void again() {
        ConjunctiveParser x = Checks.equalThirds();
        Checks.due("parse()", Checks.parseOf(x, "aabbcc"), 1);
        String before = Checks.view(x);
        Checks.due("parse() again", x.parse(), 1);
        Checks.due("parse() again", Checks.view(x), before);
        Checks.parseOf(x, "cba");
        Checks.parseOf(x, "aabbcc");
        Checks.due("another word between", Checks.view(x), before);
    }
}
