import java.io.IOException;
import java.lang.reflect.Method;
import java.lang.reflect.Modifier;
import java.nio.file.Files;
import java.nio.file.Path;
import java.util.Arrays;
import java.util.regex.Matcher;
import java.util.regex.Pattern;

/** What README.md says of the class is so: its example answers what stands beside it, and no call is left out. */
public final class ReadmeTest {
    private static final Path README = Path.of("README.md");
    private static final Pattern EXAMPLE = Pattern.compile("```java\n(.*?)```", Pattern.DOTALL);
    /** A call with its arguments and, if the comment beside it begins with an answer, that answer. */
    private static final Pattern CALL = Pattern.compile("x\\.(\\w+)\\(([^)]*)\\);\\s*(?:// (-?\\w+):)?");
    private static final Checks checks = new Checks();

    /** Null for a call that answers nothing. */
    private static Integer answerOf(SeaweedWindows x, String name, String arguments) throws ReflectiveOperationException {
        Object[] values = Arrays.stream(arguments.split(", ")).filter(value -> !value.isEmpty()).map(Integer::valueOf).toArray();
        Class<?>[] types = new Class<?>[values.length];
        Arrays.fill(types, int.class);
        return (Integer) SeaweedWindows.class.getMethod(name, types).invoke(x, values);
    }

    private static int valueOf(String answer) throws ReflectiveOperationException {
        boolean isConstant = Character.isLetter(answer.charAt(0));
        return isConstant ? SeaweedWindows.class.getField(answer).getInt(null) : Integer.parseInt(answer);
    }

    private static void exampleAnswersAsItSays(String readme) throws ReflectiveOperationException {
        Matcher example = EXAMPLE.matcher(readme);
        checks.holds("there is an example", example.find());
        SeaweedWindows x = new SeaweedWindows();
        int told = 0;
        Matcher call = CALL.matcher(example.group(1));
        while (call.find()) {
            Integer answer = answerOf(x, call.group(1), call.group(2));
            if (call.group(3) != null) {
                told++;
                checks.due(call.group(1) + "(" + call.group(2) + ") of the example", answer, valueOf(call.group(3)));
            }
        }
        checks.holds("the example tells answers", told > 0);
    }

    private static void everyCallIsNamed(String readme) {
        for (Method method : SeaweedWindows.class.getDeclaredMethods()) {
            boolean isPublic = Modifier.isPublic(method.getModifiers());
            checks.holds("README.md names " + method.getName(), !isPublic || readme.contains("`" + method.getName() + "("));
        }
    }

    public static void main(String[] args) throws IOException, ReflectiveOperationException {
        String readme = Files.readString(README);
        exampleAnswersAsItSays(readme);
        everyCallIsNamed(readme);
        checks.end();
    }
}
