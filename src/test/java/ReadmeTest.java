import java.io.IOException;
import java.lang.reflect.Method;
import java.lang.reflect.Modifier;
import java.nio.file.Files;
import java.nio.file.Path;
import java.util.HashMap;
import java.util.Map;
import java.util.regex.Matcher;
import java.util.regex.Pattern;

/** README.md tells every call, and its example answers what stands behind each line. */
public final class ReadmeTest {
    private static final Due DUE = new Due("ReadmeTest");
    private static final Pattern CALL = Pattern.compile("(?:int (\\w+) = )?x\\.(\\w+)\\((.*)\\); +// (-?\\d+|true|false): .*");
    private static final String MAKING = "MutantRows x = new MutantRows();";

    private final MutantRows x = new MutantRows();
    private final Map<String, Integer> names = new HashMap<>(Map.of("MutantRows.NONE", MutantRows.NONE));

    public static void main(String[] args) throws IOException, ReflectiveOperationException {
        String text = Files.readString(Path.of("README.md"));
        tellsEveryCall(text);
        new ReadmeTest().playExample(text);
        DUE.end();
    }

    private static void tellsEveryCall(String text) {
        for (Method m : MutantRows.class.getDeclaredMethods()) {
            if (Modifier.isPublic(m.getModifiers())) {
                DUE.is("tells " + m.getName(), text.contains("| `" + m.getName() + "("), true);
                DUE.is("shows " + m.getName(), text.contains("x." + m.getName() + "("), true);
            }
        }
    }

    private void playExample(String text) throws ReflectiveOperationException {
        Matcher block = Pattern.compile("(?s)```java\n(.*?)```").matcher(text);
        DUE.is("there is an example", block.find(), true);
        String[] lines = block.group(1).split("\n");
        DUE.is("it makes an object", lines[0].equals(MAKING), true);
        for (int i = 1; i < lines.length; i++) {
            Matcher call = CALL.matcher(lines[i]);
            boolean readable = call.matches();
            DUE.is("is a call with its answer: " + lines[i], readable, true);
            if (readable) {
                play(lines[i], call);
            }
        }
    }

    private void play(String line, Matcher call) throws ReflectiveOperationException {
        Object answer = answerOf(call.group(2), call.group(3).split(", "));
        DUE.is(line + " answered " + answer, answer.toString().equals(call.group(4)), true);
        if (call.group(1) != null) {
            names.put(call.group(1), (Integer) answer);
        }
    }

    private Object answerOf(String name, String[] words) throws ReflectiveOperationException {
        for (Method m : MutantRows.class.getDeclaredMethods()) {
            if (m.getName().equals(name)) {
                Object[] given = new Object[words.length];
                for (int i = 0; i < words.length; i++) {
                    int number = names.containsKey(words[i]) ? names.get(words[i]) : Integer.parseInt(words[i]);
                    // A plain ?: would make both a long.
                    if (m.getParameterTypes()[i] == long.class) {
                        given[i] = (long) number;
                    } else {
                        given[i] = number;
                    }
                }
                return m.invoke(x, given);
            }
        }
        return "no such call";
    }
}
