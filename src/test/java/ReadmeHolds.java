import java.io.IOException;
import java.lang.reflect.Method;
import java.lang.reflect.Modifier;
import java.nio.file.Files;
import java.nio.file.Path;
import java.util.regex.Matcher;
import java.util.regex.Pattern;
import java.util.stream.Stream;

/** README.md as it stands: its example answers what it says, and it tells every call and every test. */
public final class ReadmeHolds {
  private static final Pattern BLOCK = Pattern.compile("(?s)```java\n(.*?)```");
  private static final Pattern TEXT = Pattern.compile("for \\(char c : \"([^\"]*)\"\\.toCharArray\\(\\)\\) \\{");
  private static final Pattern CALL = Pattern.compile("x\\.(\\w+)\\((.*)\\); +// (-?\\d+): .*");
  private static final Due due = new Due();

  public static void main(String[] args) throws Exception {
    String readme = Files.readString(Path.of("README.md"));
    example(readme);
    tellsEachCall(readme);
    tellsEachTest(readme);
    due.close("ReadmeHolds");
  }

  private static void example(String readme) throws Exception {
    Matcher block = BLOCK.matcher(readme);
    due.is("an example", block.find() ? 1 : 0, 1);
    EverySecondWord x = new EverySecondWord();
    int calls = 0;
    for (String line : block.group(1).split("\n")) {
      Matcher text = TEXT.matcher(line);
      Matcher call = CALL.matcher(line);
      if (text.matches()) {
        Due.feed(x, text.group(1));
      } else if (call.matches()) {
        due.is("the example's " + line, answer(x, call.group(1), call.group(2)), Integer.parseInt(call.group(3)));
        calls++;
      } else {
        boolean frame = line.startsWith("EverySecondWord x = new") || line.startsWith("  x.feed(c);") || line.equals("}");
        due.is("known: " + line, frame ? 1 : 0, 1);
      }
    }
    due.is("some calls in the example", calls > 5 ? 1 : 0, 1);
  }

  private static int answer(EverySecondWord x, String name, String given) throws Exception {
    String[] numbers = given.isEmpty() ? new String[0] : given.split(", ");
    Class<?>[] kinds = new Class<?>[numbers.length];
    Object[] values = new Object[numbers.length];
    for (int i = 0; i < numbers.length; i++) {
      kinds[i] = int.class;
      values[i] = Integer.parseInt(numbers[i]);
    }
    return (int) EverySecondWord.class.getMethod(name, kinds).invoke(x, values);
  }

  private static void tellsEachCall(String readme) {
    for (Method m : EverySecondWord.class.getDeclaredMethods()) {
      if (Modifier.isPublic(m.getModifiers())) {
        boolean told = Pattern.compile("(?m)^\\|.*`" + m.getName() + "`.*\\|.*\\|$").matcher(readme).find();
        due.is("a row of the calls tells " + m.getName(), told ? 1 : 0, 1);
      }
    }
  }

  private static void tellsEachTest(String readme) throws IOException {
    try (Stream<Path> files = Files.list(Path.of("src/test/java"))) {
      files.map(file -> file.getFileName().toString()).filter(name -> name.endsWith(".java")).forEach(name -> {
        String test = "`" + name.replace(".java", "") + "`";
        due.is("it tells the test " + test, readme.contains(test) ? 1 : 0, 1);
      });
    }
  }
}
