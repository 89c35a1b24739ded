/** Promise 10: witnessRule. */
public final class WitnessRuleTest {
    private static final int A = Checks.A;
    private static final int B = Checks.B;

    public static void main(String[] args) {
        PieceRefusals.of("witnessRule", ConjunctiveParser::witnessRule);
        Checks.sentence("(a, i, j) is not in the stored D -> REFUSED", WitnessRuleTest::noFact);
        Checks.sentence("with no rules every answer is REFUSED", WitnessRuleTest::noRules);
        Checks.sentence("it answers the least of several rules", WitnessRuleTest::least);
        Checks.sentence("a lesser rule with another head does not count", WitnessRuleTest::headCounts);
        Checks.sentence("a lesser rule counts only if every conjunct matches", WitnessRuleTest::everyConjunct);
        Checks.sentence("a lesser rule counts only if it matches this piece", WitnessRuleTest::thisPiece);
        Checks.sentence("a lesser rule counts also if it brought the fact later", WitnessRuleTest::underStoredFacts);
        Checks.sentence("a lesser rule counts also if it rests on the fact itself", WitnessRuleTest::onItself);
        Checks.sentence("the first rule, 0, may be the answer", WitnessRuleTest::firstRule);
        Checks.sentence("the last rule, MAX_RULES - 1, may be the answer", WitnessRuleTest::lastRule);
        Checks.sentence("for a fact of D the answer is in 0..ruleCount()-1", WitnessRuleTest::range);
        Checks.end();
    }

    private static void noFact() {
        ConjunctiveParser x = new ConjunctiveParser(2, 2);
        Checks.rule(x, 0, Checks.body(A));
        Checks.rule(x, 1, Checks.body(1), Checks.body(A));
        Checks.parseOf(x, "ab");
        Checks.due("witnessRule(0, 1, 2)", x.witnessRule(0, 1, 2), -1);
        Checks.due("witnessRule(0, 0, 2)", x.witnessRule(0, 0, 2), -1);
        Checks.due("witnessRule(0, 0, 0)", x.witnessRule(0, 0, 0), -1);
        Checks.due("witnessRule(1, 0, 1)", x.witnessRule(1, 0, 1), -1);
    }

    private static void noRules() {
        ConjunctiveParser x = States.clearedGrammar();
        x.parse();
        for (int a = 0; a < 3; a++) {
            for (int i = 0; i <= 4; i++) {
                for (int j = i; j <= 4; j++) {
                    Checks.due("witnessRule(" + a + ", " + i + ", " + j + ")", x.witnessRule(a, i, j), -1);
                }
            }
        }
    }

    private static void least() {
        ConjunctiveParser x = new ConjunctiveParser(1, 1);
        Checks.rule(x, 0, Checks.body(A, A));
        for (int r = 1; r < 16; r++) {
            Checks.rule(x, 0, Checks.body(A));
        }
        Checks.parseOf(x, "a");
        Checks.due("witnessRule(0, 0, 1)", x.witnessRule(0, 0, 1), 1);
    }

    private static void headCounts() {
        ConjunctiveParser x = new ConjunctiveParser(3, 1);
        Checks.rule(x, 1, Checks.body(A));
        Checks.rule(x, 2, Checks.body(A));
        Checks.rule(x, 0, Checks.body(A));
        Checks.parseOf(x, "a");
        Checks.due("witnessRule(0, 0, 1)", x.witnessRule(0, 0, 1), 2);
        Checks.due("witnessRule(1, 0, 1)", x.witnessRule(1, 0, 1), 0);
        Checks.due("witnessRule(2, 0, 1)", x.witnessRule(2, 0, 1), 1);
    }

    private static void everyConjunct() {
        ConjunctiveParser x = new ConjunctiveParser(1, 2);
        Checks.rule(x, 0, Checks.body(A), Checks.body(B));
        Checks.rule(x, 0, Checks.body(B), Checks.body(A));
        Checks.rule(x, 0, Checks.body(A), Checks.body(A), Checks.body());
        Checks.rule(x, 0, Checks.body(A), Checks.body(A));
        Checks.parseOf(x, "a");
        Checks.due("witnessRule(0, 0, 1)", x.witnessRule(0, 0, 1), 3);
    }

    private static void thisPiece() {
        ConjunctiveParser x = new ConjunctiveParser(1, 2);
        Checks.rule(x, 0, Checks.body(B));
        Checks.rule(x, 0, Checks.body(A));
        Checks.rule(x, 0, Checks.body(0, 0));
        Checks.parseOf(x, "ab");
        Checks.due("witnessRule(0, 0, 1)", x.witnessRule(0, 0, 1), 1);
        Checks.due("witnessRule(0, 1, 2)", x.witnessRule(0, 1, 2), 0);
        Checks.due("witnessRule(0, 0, 2)", x.witnessRule(0, 0, 2), 2);
    }

    private static void underStoredFacts() {
        ConjunctiveParser x = new ConjunctiveParser(2, 1);
        Checks.rule(x, 0, Checks.body(1));
        Checks.rule(x, 0, Checks.body(A));
        Checks.rule(x, 1, Checks.body(A));
        Checks.parseOf(x, "a");
        Checks.due("witnessRule(0, 0, 1)", x.witnessRule(0, 0, 1), 0);
    }

    private static void onItself() {
        ConjunctiveParser x = new ConjunctiveParser(2, 1);
        Checks.rule(x, 0, Checks.body(0));
        Checks.rule(x, 0, Checks.body(A));
        Checks.rule(x, 1, Checks.body(1), Checks.body(A));
        Checks.rule(x, 1, Checks.body(A));
        Checks.parseOf(x, "a");
        Checks.due("A -> A", x.witnessRule(0, 0, 1), 0);
        Checks.due("B -> B & a", x.witnessRule(1, 0, 1), 2);
    }

    private static void firstRule() {
        ConjunctiveParser x = new ConjunctiveParser(2, 1);
        Checks.rule(x, 1, Checks.body(A));
        Checks.parseOf(x, "a");
        Checks.due("witnessRule(1, 0, 1)", x.witnessRule(1, 0, 1), 0);
    }

    private static void lastRule() {
        ConjunctiveParser x = new ConjunctiveParser(1, 2);
        for (int r = 0; r < 15; r++) {
            Checks.rule(x, 0, Checks.body(B));
        }
        Checks.rule(x, 0, Checks.body(A));
        Checks.parseOf(x, "a");
        Checks.due("witnessRule(0, 0, 1)", x.witnessRule(0, 0, 1), 15);
    }

    private static void range() {
        ConjunctiveParser[] all = {States.equalThirds(), States.fullOfAll(), States.everyPiece(8, 12)};
        for (ConjunctiveParser x : all) {
            x.parse();
            for (int a = 0; a < 8; a++) {
                for (int i = 0; i <= x.inputLength(); i++) {
                    for (int j = i; j <= x.inputLength(); j++) {
                        int rule = x.witnessRule(a, i, j);
                        boolean right = rule >= 0 && rule < x.ruleCount();
                        Checks.due("a witness for (" + a + ", " + i + ", " + j + ")", right, x.derives(a, i, j) == 1);
                    }
                }
            }
        }
    }
}
