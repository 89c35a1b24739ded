/** Promise 9: derives. */
public final class DerivesTest {
    public static void main(String[] args) {
        PieceRefusals.of("derives", ConjunctiveParser::derives);
        Checks.sentence("it answers 1 if (a, i, j) is in the stored D", DerivesTest::facts);
        Checks.sentence("it answers 0 if (a, i, j) is not in the stored D", DerivesTest::noFacts);
        Checks.sentence("after a refused change it answers from the stored D", DerivesTest::afterRefusedCalls);
        Checks.end();
    }

    private static void eachPieceOfThirds(int want) {
        ConjunctiveParser x = States.equalThirds();
        Checks.parseOf(x, "aabbcc");
        for (int i = 0; i <= 6; i++) {
            for (int j = i; j <= 6; j++) {
                boolean thirds = i == j || i == 0 && j == 6;
                boolean as = i == j || j <= 2;
                boolean pairs = i == j || i >= 2 && i + j == 8;
                dueIf(want, thirds, x.derives(0, i, j), "derives(0, " + i + ", " + j + ")");
                dueIf(want, as, x.derives(1, i, j), "derives(1, " + i + ", " + j + ")");
                dueIf(want, pairs, x.derives(2, i, j), "derives(2, " + i + ", " + j + ")");
            }
        }
    }

    private static void dueIf(int want, boolean fact, int got, String call) {
        if (fact == (want == 1)) {
            Checks.due(call, got, want);
        }
    }

    private static void facts() {
        eachPieceOfThirds(1);
    }

    private static void noFacts() {
        eachPieceOfThirds(0);
    }

    private static void afterRefusedCalls() {
        ConjunctiveParser x = States.everyPiece(1, 3);
        x.beginRule(1);
        x.addSymbol(1);
        x.addLetter(1);
        Checks.due("derives(0, 0, 3)", x.derives(0, 0, 3), 1);
    }
}
