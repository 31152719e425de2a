import java.io.IOException;
import java.lang.reflect.Field;
import java.lang.reflect.Method;
import java.lang.reflect.Modifier;
import java.nio.file.Files;
import java.nio.file.Path;
import java.util.List;
import java.util.Set;
import java.util.TreeSet;
import java.util.regex.Matcher;
import java.util.regex.Pattern;

/** What README.md tells of the class: its example's answers, every call and every constant. */
public final class ReadmeTest {
    private static final Pattern MADE =
        Pattern.compile("ChordRing ring = new ChordRing\\((\\d+), (\\d+), (\\d+)\\);.*");
    private static final Pattern EXAMPLE_CALL =
        Pattern.compile("ring\\.(\\w+)\\(([^)]*)\\); *// (\\w+).*");
    private static final Pattern CALL_ROW = Pattern.compile("\\| `(\\w+)\\(([^)]*)\\)` \\|.*");
    private static final Pattern CONSTANT_ROW = Pattern.compile("\\| `(\\w+)` \\| (-?\\d+) \\|.*");

    public static void main(String[] args) throws IOException, ReflectiveOperationException {
        List<String> readme = Files.readAllLines(Path.of("README.md"));
        theExampleAnswersAsTold(readme);
        everyCallIsTold(readme);
        everyConstantIsTold(readme);
        Due.finish();
    }

    private static void theExampleAnswersAsTold(List<String> readme) throws ReflectiveOperationException {
        Due.sentence("README.md, the example");
        ChordRing ring = null;
        int answered = 0;
        for (String line : readme) {
            Matcher made = MADE.matcher(line);
            Matcher call = EXAMPLE_CALL.matcher(line);
            if (made.matches()) {
                ring = new ChordRing(Integer.parseInt(made.group(1)),
                    Integer.parseInt(made.group(2)), Integer.parseInt(made.group(3)));
            } else if (ring != null && call.matches()) {
                Due.same(line, answer(ring, call.group(1), call.group(2)), meaning(call.group(3)));
                answered++;
            } else {
                Due.due("a call without a told answer: " + line, line.startsWith("ring."), false);
            }
        }
        Due.due("the example has calls", answered > 0, true);
    }

    private static String answer(ChordRing ring, String name, String given) throws ReflectiveOperationException {
        String[] words = words(given);
        Class<?>[] types = new Class<?>[words.length];
        Object[] arguments = new Object[words.length];
        for (int i = 0; i < words.length; i++) {
            types[i] = int.class;
            arguments[i] = Integer.parseInt(words[i]);
        }
        return "" + ChordRing.class.getMethod(name, types).invoke(ring, arguments);
    }

    private static String[] words(String list) {
        return list.isEmpty() ? new String[0] : list.split(", ");
    }

    /** The number behind a constant's name; any other word stands for itself. */
    private static String meaning(String word) throws ReflectiveOperationException {
        return word.matches("[A-Z_]+") ? "" + ChordRing.class.getField(word).get(null) : word;
    }

    private static void everyCallIsTold(List<String> readme) {
        Due.sentence("README.md, the calls");
        Set<String> want = new TreeSet<>();
        for (Method method : ChordRing.class.getDeclaredMethods()) {
            if (Modifier.isPublic(method.getModifiers())) {
                want.add(method.getName() + " of " + method.getParameterCount());
            }
        }
        Set<String> got = new TreeSet<>();
        for (String line : readme) {
            Matcher row = CALL_ROW.matcher(line);
            if (row.matches()) {
                got.add(row.group(1) + " of " + words(row.group(2)).length);
            }
        }
        Due.same("the calls told", got.toString(), want.toString());
    }

    private static void everyConstantIsTold(List<String> readme) throws ReflectiveOperationException {
        Due.sentence("README.md, the constants");
        Set<String> want = new TreeSet<>();
        for (Field field : ChordRing.class.getFields()) {
            want.add(field.getName() + " = " + field.get(null));
        }
        Set<String> got = new TreeSet<>();
        for (String line : readme) {
            Matcher row = CONSTANT_ROW.matcher(line);
            if (row.matches()) {
                got.add(row.group(1) + " = " + row.group(2));
            }
        }
        Due.same("the constants told", got.toString(), want.toString());
    }
}
