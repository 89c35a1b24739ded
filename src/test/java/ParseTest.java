/** Promise 8: parse. */
public final class ParseTest {
    private static final int A = Checks.A;
    private static final int B = Checks.B;

    public static void main(String[] args) {
        Checks.sentence("it is never refused: nothing entered", ParseTest::neverRefusedWhenNew);
        Checks.sentence("it is never refused: every limit reached", ParseTest::neverRefusedWhenFull);
        Checks.sentence("it sets parsed to true", ParseTest::setsParsed);
        Checks.sentence("it answers ACCEPT if (0, 0, n) is in D", ParseTest::accepts);
        Checks.sentence("it answers REJECT if (0, 0, n) is not in D", ParseTest::rejects);
        Checks.sentence("REJECT if only another nonterminal derives the word", ParseTest::startSymbolOnly);
        Checks.sentence("REJECT if the start symbol derives only pieces", ParseTest::wholeWordOnly);
        Checks.sentence("with no rules the answer is REJECT", ParseTest::noRulesAnswer);
        Checks.sentence("with no rules D is empty", ParseTest::noRulesNoFacts);
        Checks.sentence("with the rules cleared D is empty", ParseTest::clearedRulesNoFacts);
        Checks.sentence("with the empty word: ACCEPT if (0, 0, 0) is in D", ParseTest::emptyWordAccepted);
        Checks.sentence("with the empty word: REJECT if (0, 0, 0) is not in D", ParseTest::emptyWordRejected);
        Checks.sentence("with the empty word the only facts are (A, 0, 0)", ParseTest::emptyWordFacts);
        Checks.sentence("with a word of one letter", ParseTest::oneLetter);
        Checks.sentence("with a word of MAX_INPUT letters", ParseTest::longestWord);
        Checks.sentence("D is stored in place of an earlier one: a shorter word", ParseTest::replacedByShorterWord);
        Checks.sentence("D is stored in place of an earlier one: another word", ParseTest::replacedByOtherWord);
        Checks.sentence("D is stored in place of an earlier one: another grammar", ParseTest::replacedByOtherGrammar);
        Checks.sentence("rules with empty conjuncts take part", ParseTest::emptyConjuncts);
        Checks.sentence("rules with a single nonterminal take part", ParseTest::singleNonterminals);
        Checks.sentence("rules with the head itself take part", ParseTest::headItself);
        Checks.sentence("rules with letters take part", ParseTest::letters);
        Checks.sentence("the last rule, conjunct and symbol that fit take part", ParseTest::lastOnesTakePart);
        Checks.sentence("the grammar is unchanged",
                () -> Unchanged.by("parse()", ParseTest::parsedThirds, ConjunctiveParser::parse));
        Checks.sentence("the counts are unchanged", ParseTest::countsStay);
        Checks.sentence("the open rule and the open conjunct are unchanged", ParseTest::openOnesStay);
        Checks.sentence("the word is unchanged", ParseTest::wordStays);
        Checks.sentence("parse() again gives the same answer", ParseTest::sameAnswer);
        Checks.sentence("parse() again stores the same D", ParseTest::sameFacts);
        Checks.end();
    }

    private static ConjunctiveParser parsedThirds() {
        ConjunctiveParser x = States.equalThirds();
        x.parse();
        return x;
    }

    private static void neverRefusedWhenNew() {
        Checks.due("parse()", new ConjunctiveParser(1, 1).parse(), 0);
    }

    private static void neverRefusedWhenFull() {
        ConjunctiveParser x = States.fullOfAll();
        Checks.due("parse()", x.parse(), 0);
        Checks.due("derives(0, 0, 3): abc", x.derives(0, 0, 3), 1);
    }

    private static void setsParsed() {
        ConjunctiveParser x = new ConjunctiveParser(1, 1);
        x.parse();
        Checks.due("isParsed() after REJECT", x.isParsed(), true);
        x.beginRule(0);
        x.parse();
        Checks.due("isParsed() after ACCEPT", x.isParsed(), true);
    }

    private static void accepts() {
        ConjunctiveParser x = States.equalThirds();
        for (String letters : new String[] {"", "abc", "aabbcc", "aaabbbccc", "aaaabbbbcccc"}) {
            Checks.due("parse of '" + letters + "'", Checks.parseOf(x, letters), 1);
        }
    }

    private static void rejects() {
        ConjunctiveParser x = States.equalThirds();
        for (int a = 0; a <= 4; a++) {
            for (int b = 0; b <= 4; b++) {
                for (int c = 0; c <= 4; c++) {
                    String letters = "a".repeat(a) + "b".repeat(b) + "c".repeat(c);
                    if (a != b || b != c) {
                        Checks.due("parse of '" + letters + "'", Checks.parseOf(x, letters), 0);
                    }
                }
            }
        }
        Checks.due("parse of abcabc", Checks.parseOf(x, "abcabc"), 0);
    }

    private static void startSymbolOnly() {
        ConjunctiveParser x = new ConjunctiveParser(2, 1);
        Checks.rule(x, 1, Checks.body(A, A));
        Checks.due("parse of aa", Checks.parseOf(x, "aa"), 0);
    }

    private static void wholeWordOnly() {
        ConjunctiveParser x = new ConjunctiveParser(1, 2);
        Checks.rule(x, 0, Checks.body(A));
        Checks.rule(x, 0, Checks.body());
        Checks.due("parse of ab, by its beginning", Checks.parseOf(x, "ab"), 0);
        Checks.due("parse of ba, by its end", Checks.parseOf(x, "ba"), 0);
    }

    private static void noRulesAnswer() {
        ConjunctiveParser x = new ConjunctiveParser(8, 8);
        Checks.due("parse of nothing", x.parse(), 0);
        Checks.due("parse of a", Checks.parseOf(x, "a"), 0);
        Checks.due("parse of twelve letters", Checks.parseOf(x, "abcdefghabcd"), 0);
    }

    private static void noFacts(ConjunctiveParser x) {
        for (int a = 0; a < 8; a++) {
            Checks.due("countDerived(" + a + ")", x.countDerived(a), 0);
            for (int i = 0; i <= x.inputLength(); i++) {
                for (int j = i; j <= x.inputLength(); j++) {
                    Checks.due("derives(" + a + ", " + i + ", " + j + ")", x.derives(a, i, j), 0);
                }
            }
        }
    }

    private static void noRulesNoFacts() {
        ConjunctiveParser x = new ConjunctiveParser(8, 8);
        x.parse();
        noFacts(x);
        Checks.parseOf(x, "abcdefghabcd");
        noFacts(x);
    }

    private static void clearedRulesNoFacts() {
        ConjunctiveParser x = new ConjunctiveParser(8, 8);
        for (int a = 0; a < 8; a++) {
            Checks.rule(x, a, Checks.body());
            Checks.rule(x, a, Checks.body(A + a));
        }
        Checks.due("parse of a", Checks.parseOf(x, "a"), 1);
        x.clearGrammar();
        Checks.due("parse of a, without rules", x.parse(), 0);
        noFacts(x);
    }

    private static void emptyWordAccepted() {
        ConjunctiveParser x = new ConjunctiveParser(2, 1);
        x.beginRule(0);
        Checks.due("S -> empty", x.parse(), 1);
        ConjunctiveParser y = new ConjunctiveParser(2, 1);
        Checks.rule(y, 0, Checks.body(1, 1), Checks.body());
        Checks.rule(y, 1, Checks.body());
        Checks.due("S -> BB & empty, B -> empty", y.parse(), 1);
    }

    private static void emptyWordRejected() {
        ConjunctiveParser x = new ConjunctiveParser(2, 1);
        Checks.rule(x, 0, Checks.body(A));
        Checks.due("S -> a", x.parse(), 0);
        Checks.rule(x, 0, Checks.body(1, 1));
        Checks.due("S -> BB", x.parse(), 0);
        Checks.rule(x, 0, Checks.body(), Checks.body(1));
        Checks.due("S -> empty & B", x.parse(), 0);
        Checks.rule(x, 0, Checks.body(0));
        Checks.due("S -> S", x.parse(), 0);
    }

    private static void emptyWordFacts() {
        ConjunctiveParser x = new ConjunctiveParser(3, 1);
        Checks.rule(x, 0, Checks.body());
        Checks.rule(x, 0, Checks.body(A));
        Checks.rule(x, 1, Checks.body(A));
        Checks.rule(x, 2, Checks.body(0, 0, 0, 0));
        x.parse();
        Checks.due("countDerived(0)", x.countDerived(0), 1);
        Checks.due("derives(0, 0, 0)", x.derives(0, 0, 0), 1);
        Checks.due("countDerived(1)", x.countDerived(1), 0);
        Checks.due("derives(1, 0, 0)", x.derives(1, 0, 0), 0);
        Checks.due("countDerived(2)", x.countDerived(2), 1);
        Checks.due("derives(2, 0, 0)", x.derives(2, 0, 0), 1);
    }

    private static void oneLetter() {
        ConjunctiveParser x = new ConjunctiveParser(1, 2);
        Checks.rule(x, 0, Checks.body(A));
        Checks.due("S -> a, on a", Checks.parseOf(x, "a"), 1);
        Checks.due("S -> a, on b", Checks.parseOf(x, "b"), 0);
    }

    private static void longestWord() {
        ConjunctiveParser x = new ConjunctiveParser(2, 2);
        Checks.rule(x, 0, Checks.body(1, 1, 1, 1));
        Checks.rule(x, 1, Checks.body(A, A, B));
        Checks.due("four times aab", Checks.parseOf(x, "aabaabaabaab"), 1);
        Checks.due("the last letter is another", Checks.parseOf(x, "aabaabaabaaa"), 0);
        Checks.due("the first letter is another", Checks.parseOf(x, "babaabaabaab"), 0);
        Checks.due("the last letter is missing", Checks.parseOf(x, "aabaabaabaa"), 0);
    }

    private static void replacedByShorterWord() {
        ConjunctiveParser x = new ConjunctiveParser(1, 1);
        Checks.rule(x, 0, Checks.body(A, 0));
        Checks.rule(x, 0, Checks.body());
        Checks.parseOf(x, "aaaaaaaaaaaa");
        Checks.due("countDerived(0) of 12 letters", x.countDerived(0), 91);
        Checks.parseOf(x, "a");
        Checks.due("countDerived(0) of one letter", x.countDerived(0), 3);
        Checks.parseOf(x, "");
        Checks.due("countDerived(0) of none", x.countDerived(0), 1);
    }

    private static void replacedByOtherWord() {
        ConjunctiveParser x = new ConjunctiveParser(1, 2);
        Checks.rule(x, 0, Checks.body(A));
        Checks.parseOf(x, "aab");
        Checks.due("parse of bba", Checks.parseOf(x, "bba"), 0);
        Checks.due("derives(0, 0, 1)", x.derives(0, 0, 1), 0);
        Checks.due("derives(0, 1, 2)", x.derives(0, 1, 2), 0);
        Checks.due("derives(0, 2, 3)", x.derives(0, 2, 3), 1);
    }

    private static void replacedByOtherGrammar() {
        ConjunctiveParser x = new ConjunctiveParser(2, 2);
        Checks.rule(x, 0, Checks.body(A, B));
        Checks.due("S -> ab, on ab", Checks.parseOf(x, "ab"), 1);
        x.addConjunct();
        Checks.due("S -> ab & empty, on ab", x.parse(), 0);
        x.clearGrammar();
        Checks.rule(x, 1, Checks.body(A, B));
        Checks.due("B -> ab, on ab", x.parse(), 0);
        Checks.due("derives(0, 0, 2)", x.derives(0, 0, 2), 0);
        Checks.due("derives(1, 0, 2)", x.derives(1, 0, 2), 1);
    }

    private static void emptyConjuncts() {
        ConjunctiveParser x = new ConjunctiveParser(3, 2);
        Checks.rule(x, 0, Checks.body(1), Checks.body());
        Checks.rule(x, 1, Checks.body(A, 1));
        Checks.rule(x, 1, Checks.body());
        Checks.rule(x, 2, Checks.body(), Checks.body(A));
        Checks.due("S -> B & empty, on aa", Checks.parseOf(x, "aa"), 0);
        Checks.due("the empty pieces alone", x.countDerived(0), 3);
        Checks.due("C -> empty & a", x.countDerived(2), 0);
    }

    private static void singleNonterminals() {
        ConjunctiveParser down = new ConjunctiveParser(8, 1);
        ConjunctiveParser up = new ConjunctiveParser(8, 1);
        for (int a = 0; a < 7; a++) {
            Checks.rule(down, a, Checks.body(a + 1));
        }
        Checks.rule(down, 7, Checks.body(A));
        Checks.rule(up, 7, Checks.body(A));
        for (int a = 6; a >= 0; a--) {
            Checks.rule(up, a, Checks.body(a + 1));
        }
        Checks.due("a chain of eight, the last rule first", Checks.parseOf(down, "a"), 1);
        Checks.due("a chain of eight, the first rule first", Checks.parseOf(up, "a"), 1);
    }

    private static void headItself() {
        ConjunctiveParser brackets = new ConjunctiveParser(1, 2);
        Checks.rule(brackets, 0, Checks.body(0, 0));
        Checks.rule(brackets, 0, Checks.body(A, 0, B));
        Checks.rule(brackets, 0, Checks.body());
        Checks.due("brackets", Checks.parseOf(brackets, "aabbabaababb"), 1);
        Checks.due("brackets, not closed", Checks.parseOf(brackets, "aabbabaabab"), 0);
        Checks.due("brackets, turned", Checks.parseOf(brackets, "baab"), 0);

        ConjunctiveParser left = new ConjunctiveParser(1, 2);
        Checks.rule(left, 0, Checks.body(0, B));
        Checks.rule(left, 0, Checks.body(A));
        Checks.due("left recursion", Checks.parseOf(left, "abbbbbbbbbbb"), 1);
        Checks.due("left recursion, another end", Checks.parseOf(left, "abbba"), 0);
    }

    private static void letters() {
        ConjunctiveParser x = new ConjunctiveParser(1, 8);
        for (int t = 0; t < 8; t++) {
            Checks.rule(x, 0, Checks.body(A + t, A + (t + 1) % 8));
        }
        for (int t = 0; t < 8; t++) {
            for (int u = 0; u < 8; u++) {
                String letters = "" + (char) ('a' + t) + (char) ('a' + u);
                Checks.due("parse of " + letters, Checks.parseOf(x, letters), u == (t + 1) % 8 ? 1 : 0);
            }
        }
    }

    private static void lastOnesTakePart() {
        ConjunctiveParser rules = new ConjunctiveParser(8, 8);
        for (int r = 0; r < 15; r++) {
            Checks.rule(rules, r % 7 + 1, Checks.body(A));
        }
        Checks.rule(rules, 0, Checks.body(A + 7));
        Checks.due("the 16th rule, on h", Checks.parseOf(rules, "h"), 1);

        ConjunctiveParser conjuncts = new ConjunctiveParser(1, 2);
        Checks.rule(conjuncts, 0, States.equalBodies(31, Checks.body(A)));
        conjuncts.addConjunct();
        Checks.due("the 32nd conjunct is empty, on a", Checks.parseOf(conjuncts, "a"), 0);
        conjuncts.addSymbol(A);
        Checks.due("the 32nd conjunct is a, on a", Checks.parseOf(conjuncts, "a"), 1);

        ConjunctiveParser symbols = new ConjunctiveParser(1, 2);
        Checks.rule(symbols, 0, States.equalBodies(16, Checks.body(A, A, A, B)));
        Checks.due("64 symbols, on aaab", Checks.parseOf(symbols, "aaab"), 1);
        Checks.due("64 symbols, on aaaa", Checks.parseOf(symbols, "aaaa"), 0);
    }

    private static void countsStay() {
        ConjunctiveParser x = States.fullOfAll();
        x.parse();
        Checks.due("the counts", Checks.counts(x), "16 rules, 32 conjuncts, 64 symbols, 12 letters");
    }

    private static void openOnesStay() {
        ConjunctiveParser x = new ConjunctiveParser(2, 2);
        Checks.rule(x, 1, Checks.body(A, A));
        Checks.rule(x, 0, Checks.body(A));
        x.parse();
        Checks.due("the open conjunct's second symbol", x.addSymbol(A), 2);
        x.parse();
        Checks.due("the open rule's second conjunct", x.addConjunct(), 2);
        x.addSymbol(1);
        Checks.due("aa & B, on aa", Checks.parseOf(x, "aa"), 1);
        Checks.due("the next rule's number", x.beginRule(0), 2);
    }

    private static void wordStays() {
        ConjunctiveParser x = new ConjunctiveParser(2, 2);
        Checks.word(x, "abbabaabbab");
        x.parse();
        Checks.due("inputLength()", x.inputLength(), 11);
        Checks.rule(x, 1, Checks.body(B));
        x.addLetter(0);
        x.parse();
        Checks.dueWhereB(x, 1, "abbabaabbaba");
    }

    private static void sameAnswer() {
        ConjunctiveParser x = States.equalThirds();
        for (int k = 0; k < 5; k++) {
            Checks.due("parse of aabbcc, again", x.parse(), 1);
        }
        x.addLetter(0);
        for (int k = 0; k < 5; k++) {
            Checks.due("parse of aabbcca, again", x.parse(), 0);
        }
    }

    private static void sameFacts() {
        ConjunctiveParser x = States.equalThirds();
        x.parse();
        String before = Checks.facts(x);
        for (int k = 0; k < 5; k++) {
            x.parse();
            Checks.due("D, again", Checks.facts(x), before);
        }
    }
}
