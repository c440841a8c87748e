import java.lang.reflect.Method;
import java.lang.reflect.Modifier;
import java.nio.file.Files;
import java.nio.file.Path;
import java.util.regex.Matcher;
import java.util.regex.Pattern;

/** README.md answers for itself: its example is run, and each call of the face stands in it. */
public final class ReadmeTest {
  private static final Pattern TOLD = Pattern.compile("String line = \"([^\"]*)\";");
  private static final Pattern CALL = Pattern.compile("(?m)^x\\.(\\w+)\\(([^)]*)\\); +// (-?\\d+)");
  private static final Pattern EXAMPLE = Pattern.compile("(?s)```java\n(.*?)```");

  public static void main(String[] args) throws Exception {
    String readme = Files.readString(Path.of("README.md"));
    Matcher example = EXAMPLE.matcher(readme);
    Due.due("README.md has an example (1 it has)", example.find() ? 1 : 0, 1);
    runExample(example.group(1));
    checkCallsAreNamed(readme);
    Due.end();
  }

  private static void runExample(String example) throws Exception {
    StopsByLetters x = new StopsByLetters();
    Matcher told = TOLD.matcher(example);
    Due.due("the example tells a line (1 it does)", told.find() ? 1 : 0, 1);
    Due.send(x, told.group(1));
    Matcher call = CALL.matcher(example);
    int calls = 0;
    while (call.find()) {
      Due.due("README.md: x." + call.group(1) + "(" + call.group(2) + ")", ask(x, call.group(1), call.group(2)),
          Long.parseLong(call.group(3)));
      calls++;
    }
    Due.due("lines of the example that begin with x.", calls, example.split("(?m)^x\\.").length - 1);
  }

  private static long ask(StopsByLetters x, String name, String arguments) throws Exception {
    String[] parts = arguments.isEmpty() ? new String[0] : arguments.split(", *");
    Object[] numbers = new Object[parts.length];
    for (int i = 0; i < parts.length; i++) numbers[i] = Integer.parseInt(parts[i]);
    for (Method m : StopsByLetters.class.getDeclaredMethods()) {
      boolean isIt = Modifier.isPublic(m.getModifiers()) && m.getName().equals(name);
      if (isIt && m.getParameterCount() == numbers.length) return ((Number) m.invoke(x, numbers)).longValue();
    }
    throw new IllegalArgumentException("no such call: " + name + "(" + arguments + ")");
  }

  private static void checkCallsAreNamed(String readme) {
    for (Method m : StopsByLetters.class.getDeclaredMethods()) {
      if (!Modifier.isPublic(m.getModifiers())) continue;
      boolean isNamed = Pattern.compile("`" + m.getName() + "\\([^`]*\\)`").matcher(readme).find();
      Due.due("README.md names " + m.getName() + " (1 it does)", isNamed ? 1 : 0, 1);
    }
  }
}
