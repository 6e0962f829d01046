import java.io.IOException;
import java.io.UncheckedIOException;
import java.lang.reflect.Method;
import java.lang.reflect.Modifier;
import java.nio.file.Files;
import java.nio.file.Path;
import java.util.List;
import java.util.Set;
import java.util.TreeSet;
import java.util.regex.Matcher;
import java.util.regex.Pattern;

/** What README.md shows as an example is what the class answers. */
public final class ReadmeTest {
    private static final Check CHECK = new Check("README.md");
    private static final Pattern MADE = Pattern.compile("EpochReclaim x = new EpochReclaim\\((.*?)\\);\\s*(//.*)?");
    private static final Pattern CALL = Pattern.compile("x\\.(\\w+)\\((.*?)\\);\\s*// (-?\\w+)(:.*)?");

    private final Set<String> shown = new TreeSet<>();
    private EpochReclaim x;

    public static void main(String[] args) {
        CHECK.holds("what it shows as an example is what the class answers", ReadmeTest::examples);
        CHECK.end();
    }

    private static void examples() {
        ReadmeTest test = new ReadmeTest();
        boolean inExample = false;
        int number = 0;
        for (String line : readme()) {
            number++;
            if (line.startsWith("```")) {
                inExample = line.equals("```java");
                test.x = null;
            } else if (inExample) {
                test.make("line " + number + ": " + line, line.trim());
            }
        }
        for (Method method : EpochReclaim.class.getDeclaredMethods()) {
            if (Modifier.isPublic(method.getModifiers())) {
                CHECK.same("an example shows " + method.getName(), test.shown.contains(method.getName()), true);
            }
        }
    }

    private static List<String> readme() {
        try {
            return Files.readAllLines(Path.of("README.md"));
        } catch (IOException failed) {
            throw new UncheckedIOException(failed);
        }
    }

    private void make(String where, String line) {
        Matcher made = MADE.matcher(line);
        Matcher call = CALL.matcher(line);
        if (made.matches()) {
            int[] sizes = numbers(made.group(1));
            x = new EpochReclaim(sizes[0], sizes[1], sizes[2]);
        } else if (call.matches() && x != null) {
            shown.add(call.group(1));
            Object answer = answer(call.group(1), numbers(call.group(2)));
            CHECK.same(where + " (the answer is " + answer + ")", answer.equals(due(call.group(3))), true);
        } else {
            CHECK.fail(where + ": neither a construction nor a call with its answer");
        }
    }

    private static int[] numbers(String arguments) {
        if (arguments.isEmpty()) {
            return new int[0];
        }
        String[] words = arguments.split(", ");
        int[] numbers = new int[words.length];
        for (int i = 0; i < words.length; i++) {
            numbers[i] = number(words[i].replaceFirst("^EpochReclaim\\.", ""));
        }
        return numbers;
    }

    private static Object due(String word) {
        return word.equals("true") || word.equals("false") ? (Object) word.equals("true") : (Object) number(word);
    }

    private static int number(String word) {
        if (word.matches("-?\\d+")) {
            return Integer.parseInt(word);
        }
        try {
            return EpochReclaim.class.getField(word).getInt(null);
        } catch (ReflectiveOperationException unknown) {
            throw new IllegalArgumentException(word, unknown);
        }
    }

    private Object answer(String name, int[] arguments) {
        try {
            Class<?>[] types = new Class<?>[arguments.length];
            Object[] given = new Object[arguments.length];
            for (int i = 0; i < arguments.length; i++) {
                types[i] = int.class;
                given[i] = arguments[i];
            }
            return EpochReclaim.class.getMethod(name, types).invoke(x, given);
        } catch (ReflectiveOperationException unknown) {
            throw new IllegalArgumentException(name, unknown);
        }
    }
}
