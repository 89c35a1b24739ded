import java.lang.reflect.Constructor;
import java.lang.reflect.Field;
import java.lang.reflect.Method;
import java.lang.reflect.Modifier;
import java.util.Set;
import java.util.TreeSet;

/** Promise 1, the constants, and the public face. */
public final class ConstructionTest {
    public static void main(String[] args) {
        constants();
        for (int given : Checks.manyInts()) {
            clamped(given, 3);
            clamped(3, given);
            clamped(given, given);
        }
        objectsAreApart();
        face();
        Checks.end();
    }

    private static void constants() {
        Checks.due("REFUSED", ConjunctiveParser.REFUSED, -1);
        Checks.due("REJECT", ConjunctiveParser.REJECT, 0);
        Checks.due("ACCEPT", ConjunctiveParser.ACCEPT, 1);
        Checks.due("TERMINAL_BASE", ConjunctiveParser.TERMINAL_BASE, 16);
        Checks.due("MAX_RULES", ConjunctiveParser.MAX_RULES, 16);
        Checks.due("MAX_CONJUNCTS", ConjunctiveParser.MAX_CONJUNCTS, 32);
        Checks.due("MAX_SYMBOLS", ConjunctiveParser.MAX_SYMBOLS, 64);
        Checks.due("MAX_BODY", ConjunctiveParser.MAX_BODY, 4);
        Checks.due("MAX_INPUT", ConjunctiveParser.MAX_INPUT, 12);
    }

    private static void clamped(int nonterminals, int letters) {
        String made = "new (" + nonterminals + ", " + letters + ") ";
        int n = Math.max(1, Math.min(8, nonterminals));
        int t = Math.max(1, Math.min(8, letters));
        ConjunctiveParser x = new ConjunctiveParser(nonterminals, letters);
        Checks.due(made, Checks.counts(x), "0 rules, 0 conjuncts, 0 symbols, 0 letters, parsed false");
        Checks.due(made + "addConjunct()", x.addConjunct(), -1);
        Checks.due(made + "addSymbol(0)", x.addSymbol(0), -1);
        Checks.due(made + "derives(0, 0, 0)", x.derives(0, 0, 0), -1);
        Checks.due(made + "beginRule(N)", x.beginRule(n), -1);
        Checks.due(made + "beginRule(N - 1)", x.beginRule(n - 1), 0);
        Checks.due(made + "addSymbol(N)", x.addSymbol(n), -1);
        Checks.due(made + "addSymbol(N - 1)", x.addSymbol(n - 1), 1);
        Checks.due(made + "addSymbol(16 + T)", x.addSymbol(16 + t), -1);
        Checks.due(made + "addSymbol(15 + T)", x.addSymbol(15 + t), 2);
        Checks.due(made + "addLetter(T)", x.addLetter(t), -1);
        Checks.due(made + "addLetter(T - 1)", x.addLetter(t - 1), 1);
        x.clearGrammar();
        x.clearInput();
        x.parse();
        Checks.due(made + "countDerived(N), later", x.countDerived(n), -1);
        Checks.due(made + "countDerived(N - 1), later", x.countDerived(n - 1), 0);
        Checks.due(made + "addLetter(T), later", x.addLetter(t), -1);
        Checks.due(made + "addLetter(T - 1), later", x.addLetter(t - 1), 1);
    }

    private static void objectsAreApart() {
        ConjunctiveParser one = Checks.equalThirds();
        Checks.parseOf(one, "aabbcc");
        String before = Checks.view(one);
        ConjunctiveParser other = new ConjunctiveParser(2, 2);
        Checks.rule(other, 1, Checks.body(Checks.B));
        Checks.parseOf(other, "bb");
        Checks.due("calls on another object", Checks.view(one), before);
    }

    /** The public face is the document's and no member is seen outside beside it. */
    private static void face() {
        Class<?> type = ConjunctiveParser.class;
        Set<String> members = new TreeSet<>();
        for (Field field : type.getDeclaredFields()) {
            if (!Modifier.isPrivate(field.getModifiers())) {
                members.add(field.toString());
            }
        }
        for (Method method : type.getDeclaredMethods()) {
            if (!Modifier.isPrivate(method.getModifiers())) {
                members.add(method.toString());
            }
        }
        for (Constructor<?> constructor : type.getDeclaredConstructors()) {
            members.add(constructor.toString());
        }
        StringBuilder seen = new StringBuilder();
        for (String member : members) {
            seen.append(member.replace("ConjunctiveParser.", "")).append('\n');
        }
        Checks.due("the class", Modifier.toString(type.getModifiers()), "public final");
        Checks.due("the nested classes", type.getDeclaredClasses().length, 0);
        Checks.due("the public face", seen.toString(), """
                public ConjunctiveParser(int,int)
                public boolean isParsed()
                public int addConjunct()
                public int addLetter(int)
                public int addSymbol(int)
                public int beginRule(int)
                public int conjunctCount()
                public int countDerived(int)
                public int derives(int,int,int)
                public int inputLength()
                public int parse()
                public int ruleCount()
                public int symbolCount()
                public int witnessRule(int,int,int)
                public static final int ACCEPT
                public static final int MAX_BODY
                public static final int MAX_CONJUNCTS
                public static final int MAX_INPUT
                public static final int MAX_RULES
                public static final int MAX_SYMBOLS
                public static final int REFUSED
                public static final int REJECT
                public static final int TERMINAL_BASE
                public void clearGrammar()
                public void clearInput()
                """);
    }
}
