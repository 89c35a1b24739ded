import java.lang.reflect.Constructor;
import java.lang.reflect.Field;
import java.lang.reflect.Method;
import java.lang.reflect.Modifier;
import java.util.Set;
import java.util.TreeSet;

/** The public constants and the public face. */
public final class FaceTest {
    public static void main(String[] args) {
        constant("REFUSED = -1", ConjunctiveParser.REFUSED, -1);
        constant("REJECT = 0", ConjunctiveParser.REJECT, 0);
        constant("ACCEPT = 1", ConjunctiveParser.ACCEPT, 1);
        constant("TERMINAL_BASE = 16", ConjunctiveParser.TERMINAL_BASE, 16);
        constant("MAX_RULES = 16", ConjunctiveParser.MAX_RULES, 16);
        constant("MAX_CONJUNCTS = 32", ConjunctiveParser.MAX_CONJUNCTS, 32);
        constant("MAX_SYMBOLS = 64", ConjunctiveParser.MAX_SYMBOLS, 64);
        constant("MAX_BODY = 4", ConjunctiveParser.MAX_BODY, 4);
        constant("MAX_INPUT = 12", ConjunctiveParser.MAX_INPUT, 12);
        Checks.sentence("the class is public and final, without nested ones", FaceTest::theClass);
        Checks.sentence("the public face is the document's and nothing beside it is seen", FaceTest::members);
        Checks.end();
    }

    private static void constant(String words, int value, int want) {
        Checks.sentence(words, () -> Checks.due(words, value, want));
    }

    private static void theClass() {
        Class<?> type = ConjunctiveParser.class;
        Checks.due("the class", Modifier.toString(type.getModifiers()), "public final");
        Checks.due("the nested classes", type.getDeclaredClasses().length, 0);
    }

    private static void members() {
        Class<?> type = ConjunctiveParser.class;
        Set<String> members = new TreeSet<>();
        for (Field field : type.getDeclaredFields()) {
            if (!Modifier.isPrivate(field.getModifiers())) {
                members.add(field.toString());
            }
        }
        for (Method method : type.getDeclaredMethods()) {
            if (!Modifier.isPrivate(method.getModifiers())) {
                members.add(method.toString());
            }
        }
        for (Constructor<?> constructor : type.getDeclaredConstructors()) {
            members.add(constructor.toString());
        }
        StringBuilder seen = new StringBuilder();
        for (String member : members) {
            seen.append(member.replace("ConjunctiveParser.", "")).append('\n');
        }
        Checks.due("the public face", seen.toString(), """
                public ConjunctiveParser(int,int)
                public boolean isParsed()
                public int addConjunct()
                public int addLetter(int)
                public int addSymbol(int)
                public int beginRule(int)
                public int conjunctCount()
                public int countDerived(int)
                public int derives(int,int,int)
                public int inputLength()
                public int parse()
                public int ruleCount()
                public int symbolCount()
                public int witnessRule(int,int,int)
                public static final int ACCEPT
                public static final int MAX_BODY
                public static final int MAX_CONJUNCTS
                public static final int MAX_INPUT
                public static final int MAX_RULES
                public static final int MAX_SYMBOLS
                public static final int REFUSED
                public static final int REJECT
                public static final int TERMINAL_BASE
                public void clearGrammar()
                public void clearInput()
                """);
    }
}
