import java.lang.reflect.Method;
import java.lang.reflect.Modifier;
import java.nio.file.Files;
import java.nio.file.Path;
import java.util.regex.Matcher;
import java.util.regex.Pattern;

/** What README.md tells a user: the calls of its example answer what stands behind them, and no call is passed over. */
public final class ReadmeTest {
    private static final Pattern EXAMPLE = Pattern.compile("(?s)```java\n(.*?)```");
    private static final Pattern FED = Pattern.compile("\"([^\"]*)\"\\.toCharArray");
    private static final Pattern ANSWERED = Pattern.compile("street\\.(\\w+\\([-0-9, ]*\\)); +// (-?\\d+)\\b");

    public static void main(String[] args) throws Exception {
        String readme = Files.readString(Path.of("README.md"));
        Matcher example = EXAMPLE.matcher(readme);
        Due.is("README.md has an example", example.find() ? 1 : 0, 1);
        Runs.run(runOf(example.group(1)));
        for (Method method : SumOfTwoThatStand.class.getDeclaredMethods()) {
            if (Modifier.isPublic(method.getModifiers())) {
                Due.is("README.md tells " + method.getName(), readme.contains("`" + method.getName() + "`") ? 1 : 0, 1);
            }
        }
        Due.end();
    }

    /** A text that is fed and the street() behind it are one item of a run. */
    private static String runOf(String example) {
        StringBuilder run = new StringBuilder();
        String fed = "";
        for (String line : example.split("\n")) {
            Matcher text = FED.matcher(line);
            Matcher call = ANSWERED.matcher(line);
            if (text.find()) {
                fed = text.group(1);
            } else if (call.find()) {
                boolean ofText = call.group(1).equals("street()") && !fed.isEmpty();
                run.append(ofText ? '"' + fed + '"' : call.group(1).replace(" ", ""));
                run.append('=').append(call.group(2)).append(' ');
            } else {
                Due.is("no answer told: " + line, line.contains("street.") && !line.contains("street.feed(letter)") ? 1 : 0, 0);
            }
        }
        return run.toString();
    }
}
