import java.io.IOException;
import java.lang.reflect.Field;
import java.lang.reflect.Method;
import java.lang.reflect.Modifier;
import java.nio.file.Files;
import java.nio.file.Path;
import java.util.ArrayDeque;
import java.util.Deque;
import java.util.Map;
import java.util.Set;
import java.util.TreeMap;
import java.util.TreeSet;
import java.util.regex.Matcher;
import java.util.regex.Pattern;

/** What can be seen of the rules of LANGUAGE.md by reflection and in the words of the source. */
public final class LanguageTest {
    private static final Set<String> NOT_CALLS = Set.of("if", "for", "while", "switch", "return");
    private static final int MAX_LINES = 60;
    private static final int MAX_DEPTH = 6;

    private final String source;
    /** Each method with the methods of the class that it calls. */
    private final Map<String, Set<String>> calls = new TreeMap<>();

    private LanguageTest(String source) {
        this.source = source;
    }

    public static void main(String[] args) throws IOException {
        String text = Files.readString(Path.of("src/main/java/ClearingHouse.java"));
        LanguageTest test = new LanguageTest(text.replaceAll("(?s)/\\*.*?\\*/", "").replaceAll("//[^\n]*", ""));
        test.keepsItsMethodsApart();
        test.keepsItsFieldsPlain();
        test.usesNoForbiddenWord();
        test.makesArraysInFieldsOnly();
        test.nestsNoCalls();
        test.keepsMethodsShort();
        test.keepsCallsShallow();
        Check.finish();
    }

    private void keepsItsMethodsApart() {
        Check.title("rules 1 and 10: methods");
        Set<String> names = new TreeSet<>();
        for (Method method : ClearingHouse.class.getDeclaredMethods()) {
            Check.yes("the name " + method.getName() + " stands once", names.add(method.getName()));
            Check.yes(method.getName() + " has at most 7 parameters", method.getParameterCount() <= 7);
        }
    }

    private void keepsItsFieldsPlain() {
        Check.title("rules 2, 5 and 10: fields");
        Set<Class<?>> plain = Set.of(int.class, long.class, short.class, byte.class, char.class, boolean.class);
        int fields = 0;
        for (Field field : ClearingHouse.class.getDeclaredFields()) {
            Class<?> type = field.getType();
            if (Modifier.isStatic(field.getModifiers())) {
                Check.yes(field.getName() + " is a constant", Modifier.isFinal(field.getModifiers())
                    && (type == int.class || type == long.class));
            } else {
                fields++;
                Check.yes(field.getName() + " is plain", plain.contains(type.isArray() ? type.getComponentType() : type));
            }
        }
        Check.yes("at most 40 fields", fields <= 40);
    }

    private void usesNoForbiddenWord() {
        Check.title("rules 2, 3 and 6: words");
        Matcher word = Pattern.compile("\\b(import|package|throw|throws|try|catch|finally|synchronized|assert|instanceof"
            + "|null|float|double|enum|interface|record|var|Math|System|String|Integer|Long|Arrays|Object)\\b|->|::|\"")
            .matcher(source);
        while (word.find()) {
            Check.due("the source has " + word.group(), false, true);
        }
    }

    private void makesArraysInFieldsOnly() {
        Check.title("rule 4: arrays");
        String methods = source.substring(source.indexOf("public ClearingHouse("));
        Check.due("new behind the fields", false, Pattern.compile("\\bnew\\b").matcher(methods).find());
    }

    private void nestsNoCalls() {
        Check.title("rule 10: a call inside the arguments of another");
        Deque<String> open = new ArrayDeque<>();
        Matcher bracket = Pattern.compile("(\\w*)\\s*\\(|\\)").matcher(source);
        while (bracket.find()) {
            if (bracket.group().equals(")")) {
                open.pop();
                continue;
            }
            String name = bracket.group(1);
            boolean call = !name.isEmpty() && !NOT_CALLS.contains(name);
            for (String outer : open) {
                Check.due(name + " inside " + outer, false, call && !outer.isEmpty());
            }
            open.push(call ? name : "");
        }
    }

    private void keepsMethodsShort() {
        Check.title("rule 10: the length of methods");
        Matcher method = Pattern.compile("(?ms)^    (?:public|private) [\\w \\[\\]]*?(\\w+)\\([^)]*\\) \\{\n(.*?)^    \\}$")
            .matcher(source);
        while (method.find()) {
            String name = method.group(1);
            Check.yes(name + " is short", method.group(2).lines().count() <= MAX_LINES);
            Set<String> called = new TreeSet<>();
            Matcher call = Pattern.compile("(\\w+)\\(").matcher(method.group(2));
            while (call.find()) {
                called.add(call.group(1));
            }
            calls.put(name, called);
        }
        int due = ClearingHouse.class.getDeclaredMethods().length + 1;
        Check.number("methods found in the source, with the constructor", due, calls.size());
    }

    /** A recursion would never come out of the loop but for its bound, and be as deep as that. */
    private void keepsCallsShallow() {
        Check.title("rules 8 and 10: the depth of calls");
        for (String name : calls.keySet()) {
            Set<String> level = Set.of(name);
            int depth = 0;
            while (!level.isEmpty() && depth <= MAX_DEPTH) {
                depth++;
                Set<String> next = new TreeSet<>();
                for (String caller : level) {
                    next.addAll(calls.get(caller));
                }
                next.retainAll(calls.keySet());
                level = next;
            }
            Check.yes(name + " goes at most " + MAX_DEPTH + " deep, not " + depth, depth <= MAX_DEPTH);
        }
    }
}
