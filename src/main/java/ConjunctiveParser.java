public final class ConjunctiveParser {
    public static final int REFUSED = -1;
    public static final int REJECT = 0;
    public static final int ACCEPT = 1;
    public static final int TERMINAL_BASE = 16;
    public static final int MAX_RULES = 16;
    public static final int MAX_CONJUNCTS = 32;
    public static final int MAX_SYMBOLS = 64;
    public static final int MAX_BODY = 4;
    public static final int MAX_INPUT = 12;

    private static final int MAX_NONTERMINALS = 8;
    private static final int MAX_LETTERS = 8;
    private static final int POSITIONS = MAX_INPUT + 1;
    private static final int BODY_SLOTS = MAX_CONJUNCTS * MAX_BODY;
    private static final int END_SETS = MAX_NONTERMINALS * POSITIONS;
    private static final int MAX_FACTS = MAX_NONTERMINALS * (POSITIONS * (POSITIONS + 1) / 2);

    private final int nonterminalCount;
    private final int letterCount;

    private final int[] headOfRule = new int[MAX_RULES];
    private final int[] firstConjunctOfRule = new int[MAX_RULES];
    private final int[] conjunctsOfRule = new int[MAX_RULES];
    private int rules = 0;

    // Every conjunct owns MAX_BODY slots, so a body's place follows from its number alone.
    private final int[] body = new int[BODY_SLOTS];
    private final int[] bodyLength = new int[MAX_CONJUNCTS];
    private int conjuncts = 0;
    private int symbols = 0;

    private final int[] word = new int[MAX_INPUT];
    private int wordLength = 0;

    // D, held as sets of end positions: bit j of derivedEnds[a * POSITIONS + i] stands for (a, i, j).
    // Positions are few, so one int holds every end and a conjunct is matched for all ends at once.
    private final int[] derivedEnds = new int[END_SETS];
    private boolean parsed = false;

    public ConjunctiveParser(int nonterminals, int letters) {
        nonterminalCount = clamp(nonterminals, MAX_NONTERMINALS);
        letterCount = clamp(letters, MAX_LETTERS);
    }

    public int beginRule(int head) {
        if (!isNonterminal(head)) {
            return REFUSED;
        }
        if (rules == MAX_RULES) {
            return REFUSED;
        }
        if (conjuncts == MAX_CONJUNCTS) {
            return REFUSED;
        }
        int rule = rules;
        headOfRule[rule] = head;
        firstConjunctOfRule[rule] = conjuncts;
        conjunctsOfRule[rule] = 0;
        rules++;
        openConjunct();
        return rule;
    }

    public int addConjunct() {
        if (rules == 0) {
            return REFUSED;
        }
        if (conjuncts == MAX_CONJUNCTS) {
            return REFUSED;
        }
        return openConjunct();
    }

    public int addSymbol(int sym) {
        if (rules == 0) {
            return REFUSED;
        }
        if (!isNonterminal(sym) && !isLetterSymbol(sym)) {
            return REFUSED;
        }
        int open = conjuncts - 1;
        int length = bodyLength[open];
        if (length == MAX_BODY) {
            return REFUSED;
        }
        if (symbols == MAX_SYMBOLS) {
            return REFUSED;
        }
        body[open * MAX_BODY + length] = sym;
        bodyLength[open] = length + 1;
        symbols++;
        parsed = false;
        return length + 1;
    }

    public void clearGrammar() {
        rules = 0;
        conjuncts = 0;
        symbols = 0;
        parsed = false;
    }

    public int addLetter(int c) {
        if (c < 0 || c >= letterCount) {
            return REFUSED;
        }
        if (wordLength == MAX_INPUT) {
            return REFUSED;
        }
        word[wordLength] = c;
        wordLength++;
        parsed = false;
        return wordLength;
    }

    public void clearInput() {
        wordLength = 0;
        parsed = false;
    }

    public int parse() {
        forgetFacts();
        // A round that grows adds a fact, so there are at most MAX_FACTS of them and one that rests.
        boolean grew = true;
        for (int round = 0; round <= MAX_FACTS && grew; round++) {
            grew = applyAllRules();
        }
        parsed = true;
        return isFact(0, 0, wordLength) ? ACCEPT : REJECT;
    }

    public int derives(int a, int i, int j) {
        if (!canAnswerFor(a) || !isPiece(i, j)) {
            return REFUSED;
        }
        return isFact(a, i, j) ? 1 : 0;
    }

    public int witnessRule(int a, int i, int j) {
        if (!canAnswerFor(a) || !isPiece(i, j)) {
            return REFUSED;
        }
        if (!isFact(a, i, j)) {
            return REFUSED;
        }
        for (int rule = 0; rule < rules; rule++) {
            if (headOfRule[rule] == a) {
                int ends = endsOfRule(rule, i);
                if (hasPosition(ends, j)) {
                    return rule;
                }
            }
        }
        return REFUSED;
    }

    public int countDerived(int a) {
        if (!canAnswerFor(a)) {
            return REFUSED;
        }
        int count = 0;
        for (int i = 0; i <= wordLength; i++) {
            for (int j = i; j <= wordLength; j++) {
                if (isFact(a, i, j)) {
                    count++;
                }
            }
        }
        return count;
    }

    public boolean isParsed() {
        return parsed;
    }

    public int inputLength() {
        return wordLength;
    }

    public int ruleCount() {
        return rules;
    }

    public int conjunctCount() {
        return conjuncts;
    }

    public int symbolCount() {
        return symbols;
    }

    private static int clamp(int value, int most) {
        if (value < 1) {
            return 1;
        }
        return value > most ? most : value;
    }

    private static boolean hasPosition(int positions, int p) {
        return ((positions >> p) & 1) != 0;
    }

    private boolean isNonterminal(int sym) {
        return sym >= 0 && sym < nonterminalCount;
    }

    private boolean isLetterSymbol(int sym) {
        return sym >= TERMINAL_BASE && sym < TERMINAL_BASE + letterCount;
    }

    private boolean isPiece(int i, int j) {
        return i >= 0 && j <= wordLength && i <= j;
    }

    private boolean canAnswerFor(int a) {
        return parsed && isNonterminal(a);
    }

    private boolean isFact(int a, int i, int j) {
        return hasPosition(derivedEnds[a * POSITIONS + i], j);
    }

    private int openConjunct() {
        int conjunct = conjuncts;
        bodyLength[conjunct] = 0;
        conjunctsOfRule[rules - 1]++;
        conjuncts++;
        parsed = false;
        return conjunct;
    }

    private void forgetFacts() {
        for (int k = 0; k < END_SETS; k++) {
            derivedEnds[k] = 0;
        }
    }

    private boolean applyAllRules() {
        boolean grew = false;
        for (int rule = 0; rule < rules; rule++) {
            for (int i = 0; i <= wordLength; i++) {
                int slot = headOfRule[rule] * POSITIONS + i;
                int known = derivedEnds[slot];
                int ends = known | endsOfRule(rule, i);
                derivedEnds[slot] = ends;
                grew = grew || ends != known;
            }
        }
        return grew;
    }

    // A rule has at least one conjunct, so starting from all ones never answers an end by itself.
    private int endsOfRule(int rule, int i) {
        int first = firstConjunctOfRule[rule];
        int count = conjunctsOfRule[rule];
        int ends = -1;
        for (int k = 0; k < count; k++) {
            ends &= endsOfConjunct(first + k, i);
        }
        return ends;
    }

    private int endsOfConjunct(int conjunct, int i) {
        int length = bodyLength[conjunct];
        int ends = 1 << i;
        for (int k = 0; k < length; k++) {
            int sym = body[conjunct * MAX_BODY + k];
            if (sym < TERMINAL_BASE) {
                ends = endsOfNonterminal(sym, ends);
            } else {
                ends = endsOfLetter(sym - TERMINAL_BASE, ends);
            }
        }
        return ends;
    }

    private int endsOfNonterminal(int a, int starts) {
        int ends = 0;
        for (int p = 0; p <= wordLength; p++) {
            if (hasPosition(starts, p)) {
                ends |= derivedEnds[a * POSITIONS + p];
            }
        }
        return ends;
    }

    private int endsOfLetter(int letter, int starts) {
        int ends = 0;
        for (int p = 0; p < wordLength; p++) {
            if (hasPosition(starts, p) && word[p] == letter) {
                ends |= 1 << (p + 1);
            }
        }
        return ends;
    }
}
