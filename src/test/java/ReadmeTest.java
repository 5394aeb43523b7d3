import java.io.IOException;
import java.lang.reflect.Field;
import java.lang.reflect.Method;
import java.lang.reflect.Modifier;
import java.nio.file.Files;
import java.nio.file.Path;
import java.util.Set;
import java.util.TreeSet;
import java.util.regex.Matcher;
import java.util.regex.Pattern;

/** Plays the example of README.md on the class, so that README.md never tells an answer that is not given. */
public final class ReadmeTest {
    private static final Pattern MAKING = Pattern.compile("ClearingHouse house = new ClearingHouse\\((.*)\\);");
    private static final Pattern CALL = Pattern.compile("house\\.(\\w+)\\((.*)\\); +// (true|false|-?\\d+)(?:: .+)?");

    private final String text;
    private final Set<String> played = new TreeSet<>();
    private ClearingHouse house;

    private ReadmeTest(String text) {
        this.text = text;
    }

    public static void main(String[] args) throws IOException, ReflectiveOperationException {
        ReadmeTest test = new ReadmeTest(Files.readString(Path.of("README.md")));
        test.answersWhatTheExampleSays();
        test.namesAllThereIsToUse();
        Check.finish();
    }

    private void answersWhatTheExampleSays() throws ReflectiveOperationException {
        Check.title("the example of README.md");
        Matcher block = Pattern.compile("(?s)```java\n(.*?)```").matcher(text);
        Check.yes("there is an example", block.find());
        for (String line : block.group(1).split("\n")) {
            if (!line.isEmpty()) {
                play(line);
            }
        }
    }

    private void play(String line) throws ReflectiveOperationException {
        Matcher making = MAKING.matcher(line);
        Matcher call = CALL.matcher(line);
        if (making.matches()) {
            Object[] arguments = numbers(making.group(1));
            house = (ClearingHouse) ClearingHouse.class.getConstructors()[0].newInstance(arguments);
        } else if (call.matches()) {
            Object answer = method(call.group(1)).invoke(house, numbers(call.group(2)));
            Check.due(line, call.group(3), answer.toString());
            played.add(call.group(1));
        } else {
            Check.yes("the line can be played: " + line, false);
        }
    }

    private static Method method(String name) {
        for (Method method : ClearingHouse.class.getMethods()) {
            if (method.getName().equals(name)) {
                return method;
            }
        }
        throw new IllegalArgumentException("README.md calls " + name + ", which is no method of the class");
    }

    private static Object[] numbers(String list) throws ReflectiveOperationException {
        if (list.isEmpty()) {
            return new Object[0];
        }
        String[] words = list.split(", ");
        Object[] numbers = new Object[words.length];
        for (int n = 0; n < words.length; n++) {
            boolean constant = words[n].startsWith("ClearingHouse.");
            numbers[n] = constant ? ClearingHouse.class.getField(words[n].substring(14)).getInt(null)
                : Integer.parseInt(words[n]);
        }
        return numbers;
    }

    private void namesAllThereIsToUse() {
        Check.title("what README.md names");
        for (Method method : ClearingHouse.class.getDeclaredMethods()) {
            if (Modifier.isPublic(method.getModifiers())) {
                Check.yes(method.getName() + " is in the example", played.contains(method.getName()));
                Check.yes(method.getName() + " is in a table", text.contains("| `" + method.getName() + "("));
            }
        }
        for (Field field : ClearingHouse.class.getFields()) {
            Check.yes(field.getName() + " is named", text.contains("`" + field.getName() + "`"));
        }
    }
}
