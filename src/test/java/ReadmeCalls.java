import java.io.IOException;
import java.lang.reflect.Method;
import java.lang.reflect.Modifier;
import java.nio.file.Files;
import java.nio.file.Path;
import java.util.Set;
import java.util.TreeSet;
import java.util.regex.Matcher;
import java.util.regex.Pattern;

/** The calls that README.md shows, line by line, and the answers that it tells behind them. */
public final class ReadmeCalls {
    private static final Pattern NEW = Pattern.compile("GuidedProbes x = new GuidedProbes\\(\\);");
    private static final Pattern TYPE = Pattern.compile("type\\(x, \"([^\"]*)\"\\);( *// .*)?");
    private static final Pattern CALL = Pattern.compile("x\\.(\\w+)\\(([^)]*)\\); *// (-?\\d+|[A-Z]+)(: .*)?");

    public static void main(String[] args) {
        Check.runTestsOf(ReadmeCalls.class);
    }

    static void answersAreAsTold() throws IOException, ReflectiveOperationException {
        GuidedProbes x = null;
        boolean isCode = false;
        for (String line : Files.readAllLines(Path.of("README.md"))) {
            Matcher typed = TYPE.matcher(line), call = CALL.matcher(line);
            if (line.startsWith("```")) {
                isCode = line.equals("```java");
            } else if (isCode && NEW.matcher(line).matches()) {
                x = new GuidedProbes();
            } else if (isCode && typed.matches()) {
                typeAll(x, typed.group(1));
            } else if (isCode && call.matches()) {
                Check.due(line, answer(x, call.group(1), call.group(2)), told(call.group(3)));
            } else if (isCode) {
                Check.due("understood: " + line, 0, 1);
            }
        }
    }

    static void eachCallIsShown() throws IOException {
        Set<String> shown = new TreeSet<>();
        for (String line : Files.readAllLines(Path.of("README.md"))) {
            Matcher call = CALL.matcher(line);
            if (call.matches()) {
                shown.add(call.group(1));
                shown.add(call.group(3));
            }
        }
        for (Method method : GuidedProbes.class.getDeclaredMethods()) {
            if (Modifier.isPublic(method.getModifiers())) {
                Check.due(method.getName() + " is shown", shown.contains(method.getName()) ? 1 : 0, 1);
            }
        }
        for (String refusal : new String[] {"NONE", "UNKNOWN", "OUTSIDE", "STATE", "FULL"}) {
            Check.due(refusal + " is shown", shown.contains(refusal) ? 1 : 0, 1);
        }
    }

    static void eachTestIsTold() throws IOException {
        String page = Files.readString(Path.of("README.md"));
        Check.due(".ci/run is told", page.contains("    .ci/run\n") ? 1 : 0, 1);
        for (String name : Path.of("src/test/java").toFile().list()) {
            // The tests of the promises are told by the first and the last one.
            boolean isTold = page.contains(name) || name.matches("Promise(0[2-9]|1[0-6])\\w+\\.java");
            Check.due(name + " is told", isTold ? 1 : 0, 1);
        }
    }

    private static void typeAll(GuidedProbes x, String text) {
        int had = x.count(2);
        Check.type(x, text);
        Check.due("letters behind " + text, x.count(2), had + text.length());
    }

    private static long answer(GuidedProbes x, String name, String told) throws ReflectiveOperationException {
        String[] words = told.isEmpty() ? new String[0] : told.split(", ");
        Object[] arguments = new Object[words.length];
        for (int i = 0; i < words.length; i++) {
            arguments[i] = argument(words[i]);
        }
        for (Method method : GuidedProbes.class.getMethods()) {
            if (method.getName().equals(name)) {
                return ((Number) method.invoke(x, arguments)).longValue();
            }
        }
        throw new NoSuchMethodException(name);
    }

    private static Object argument(String word) {
        if (word.equals("true") || word.equals("false")) {
            return word.equals("true");
        }
        return word.startsWith("'") ? (int) word.charAt(1) : Integer.parseInt(word);
    }

    private static long told(String answer) throws ReflectiveOperationException {
        boolean isName = Character.isLetter(answer.charAt(0));
        return isName ? GuidedProbes.class.getField(answer).getInt(null) : Long.parseLong(answer);
    }
}
