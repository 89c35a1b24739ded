import java.util.ArrayList;
import java.util.List;

/**
 * All promises at once: long runs of calls, each answer held against a second program that follows the
 * words of the document step by step. The runs are made by a fixed row of numbers, so they never vary.
 */
public final class ModelTest {
    private static final int RUNS = 1500;
    private static final int CALLS = 400;
    private static final int[] INTS = Checks.ints().toArray();

    private static long state = 1;

    public static void main(String[] args) {
        Checks.sentence("every answer of long runs is as the second program's", ModelTest::allRuns);
        Checks.end();
    }

    private static void allRuns() {
        int accepted = 0;
        for (int run = 0; run < RUNS; run++) {
            accepted += oneRun(run);
        }
        Checks.due("some words are accepted", accepted > 1000, true);
    }

    private static int next(int bound) {
        state = state * 6364136223846793005L + 1442695040888963407L;
        return (int) ((state >>> 33) % bound);
    }

    /** A number in 0..most - 1, or now and then one that may lie outside. */
    private static int mostly(int most) {
        return next(20) == 0 ? INTS[next(INTS.length)] : next(most);
    }

    private static int symbol(int n, int t) {
        return next(2) == 0 ? mostly(n) : next(20) == 0 ? 16 + next(12) : 16 + next(t);
    }

    private static int oneRun(int run) {
        int n = 1 + next(next(2) == 0 ? 3 : 8);
        int t = 1 + next(next(2) == 0 ? 2 : 8);
        ConjunctiveParser x = new ConjunctiveParser(n, t);
        Model model = new Model(n, t);
        int accepted = 0;
        // Runs differ in how often they begin rules, so that each limit is met before the others by some.
        int rulesOften = 1 + next(6);
        int conjunctsOften = 1 + next(6);
        for (int call = 0; call < CALLS; call++) {
            String at = "run " + run + " (" + n + ", " + t + "), call " + call + ": ";
            int kind = next(40);
            if (kind < rulesOften) {
                int head = mostly(n);
                Checks.due(at + "beginRule(" + head + ")", x.beginRule(head), model.beginRule(head));
            } else if (kind < rulesOften + conjunctsOften) {
                Checks.due(at + "addConjunct()", x.addConjunct(), model.addConjunct());
            } else if (kind < 24) {
                int sym = symbol(n, t);
                Checks.due(at + "addSymbol(" + sym + ")", x.addSymbol(sym), model.addSymbol(sym));
            } else if (kind < 30) {
                int c = mostly(t);
                Checks.due(at + "addLetter(" + c + ")", x.addLetter(c), model.addLetter(c));
            } else if (kind == 30 && next(4) == 0) {
                x.clearInput();
                model.clearInput();
            } else if (kind == 31 && next(8) == 0) {
                x.clearGrammar();
                model.clearGrammar();
            } else if (kind == 32) {
                int answer = model.parse();
                accepted += answer;
                Checks.due(at + "parse()", x.parse(), answer);
                Checks.due(at + "parse()", Checks.view(x), model.view());
            } else {
                query(at, x, model);
            }
            Checks.due(at + "counts", Checks.counts(x), model.counts());
            Checks.due(at + "parsed", x.isParsed(), model.parsed);
        }
        return accepted;
    }

    private static void query(String at, ConjunctiveParser x, Model model) {
        int a = mostly(model.n);
        int i = mostly(model.word.size() + 1);
        int j = mostly(model.word.size() + 1);
        String piece = "(" + a + ", " + i + ", " + j + ")";
        Checks.due(at + "derives" + piece, x.derives(a, i, j), model.derives(a, i, j));
        Checks.due(at + "witnessRule" + piece, x.witnessRule(a, i, j), model.witnessRule(a, i, j));
        Checks.due(at + "countDerived(" + a + ")", x.countDerived(a), model.countDerived(a));
    }

    private static final class Model {
        final int n;
        final int t;
        final List<Integer> heads = new ArrayList<>();
        final List<List<List<Integer>>> rules = new ArrayList<>();
        final List<Integer> word = new ArrayList<>();
        boolean parsed = false;
        boolean[][][] facts = new boolean[8][13][13];

        Model(int n, int t) {
            this.n = n;
            this.t = t;
        }

        int conjuncts() {
            int sum = 0;
            for (List<List<Integer>> rule : rules) {
                sum += rule.size();
            }
            return sum;
        }

        int symbols() {
            int sum = 0;
            for (List<List<Integer>> rule : rules) {
                for (List<Integer> conjunct : rule) {
                    sum += conjunct.size();
                }
            }
            return sum;
        }

        int beginRule(int head) {
            if (head < 0 || head >= n || rules.size() == 16 || conjuncts() == 32) {
                return -1;
            }
            heads.add(head);
            rules.add(new ArrayList<>());
            rules.get(rules.size() - 1).add(new ArrayList<>());
            parsed = false;
            return rules.size() - 1;
        }

        int addConjunct() {
            if (rules.isEmpty() || conjuncts() == 32) {
                return -1;
            }
            rules.get(rules.size() - 1).add(new ArrayList<>());
            parsed = false;
            return conjuncts() - 1;
        }

        int addSymbol(int sym) {
            boolean symbol = sym >= 0 && sym < n || sym >= 16 && sym < 16 + t;
            if (rules.isEmpty() || !symbol) {
                return -1;
            }
            List<List<Integer>> rule = rules.get(rules.size() - 1);
            List<Integer> open = rule.get(rule.size() - 1);
            if (open.size() == 4 || symbols() == 64) {
                return -1;
            }
            open.add(sym);
            parsed = false;
            return open.size();
        }

        void clearGrammar() {
            heads.clear();
            rules.clear();
            parsed = false;
        }

        int addLetter(int c) {
            if (c < 0 || c >= t || word.size() == 12) {
                return -1;
            }
            word.add(c);
            parsed = false;
            return word.size();
        }

        void clearInput() {
            word.clear();
            parsed = false;
        }

        /** The facts of derivation trees of height 1, 2, ... until a height brings no new one. */
        int parse() {
            facts = new boolean[8][13][13];
            boolean grew = true;
            while (grew) {
                boolean[][][] higher = new boolean[8][13][13];
                grew = false;
                for (int r = 0; r < rules.size(); r++) {
                    for (int i = 0; i <= word.size(); i++) {
                        for (int j = i; j <= word.size(); j++) {
                            if (ruleMatches(r, i, j)) {
                                higher[heads.get(r)][i][j] = true;
                                grew |= !facts[heads.get(r)][i][j];
                            }
                        }
                    }
                }
                facts = higher;
            }
            parsed = true;
            return facts[0][0][word.size()] ? 1 : 0;
        }

        boolean ruleMatches(int r, int i, int j) {
            for (List<Integer> conjunct : rules.get(r)) {
                if (!matches(conjunct, 0, i, j)) {
                    return false;
                }
            }
            return true;
        }

        boolean matches(List<Integer> conjunct, int k, int i, int j) {
            if (k == conjunct.size()) {
                return i == j;
            }
            int sym = conjunct.get(k);
            if (sym >= 16) {
                return i < j && word.get(i) == sym - 16 && matches(conjunct, k + 1, i + 1, j);
            }
            for (int p = i; p <= j; p++) {
                if (facts[sym][i][p] && matches(conjunct, k + 1, p, j)) {
                    return true;
                }
            }
            return false;
        }

        int derives(int a, int i, int j) {
            if (!parsed || a < 0 || a >= n || i < 0 || j > word.size() || i > j) {
                return -1;
            }
            return facts[a][i][j] ? 1 : 0;
        }

        int witnessRule(int a, int i, int j) {
            if (derives(a, i, j) != 1) {
                return -1;
            }
            int r = 0;
            while (heads.get(r) != a || !ruleMatches(r, i, j)) {
                r++;
            }
            return r;
        }

        int countDerived(int a) {
            if (!parsed || a < 0 || a >= n) {
                return -1;
            }
            int count = 0;
            for (int i = 0; i <= word.size(); i++) {
                for (int j = i; j <= word.size(); j++) {
                    count += derives(a, i, j);
                }
            }
            return count;
        }

        String counts() {
            return rules.size() + " rules, " + conjuncts() + " conjuncts, " + symbols() + " symbols, "
                    + word.size() + " letters";
        }

        String view() {
            StringBuilder text = new StringBuilder(counts()).append(", parsed ").append(parsed);
            for (int a = -1; a <= 8; a++) {
                text.append("; ").append(a).append(": ").append(countDerived(a)).append(" of");
                for (int i = 0; i <= word.size(); i++) {
                    for (int j = i; j <= word.size(); j++) {
                        text.append(' ').append(derives(a, i, j)).append('/').append(witnessRule(a, i, j));
                    }
                }
            }
            return text.toString();
        }
    }
}
