import java.io.IOException;
import java.nio.file.Files;
import java.nio.file.Path;
import java.util.List;
import java.util.TreeMap;
import java.util.TreeSet;
import java.util.regex.Matcher;
import java.util.regex.Pattern;
import java.util.stream.Collectors;
import java.util.stream.Stream;

/** Each promise of the document has tests that are named after it, and no two of them bear one name. */
public final class EveryPromise {
  private static final Pattern PROMISE = Pattern.compile("(?m)^## Promise (\\d+):");
  private static final Pattern TEST = Pattern.compile("(?m)^  static void (" + ByName.NAME + ")\\(\\) \\{");

  public static void main(String[] args) throws IOException {
    Due due = new Due();
    TreeSet<Integer> told = new TreeSet<>();
    Matcher promise = PROMISE.matcher(Files.readString(Path.of("../shared/DOC.md")));
    while (promise.find()) {
      told.add(Integer.parseInt(promise.group(1)));
    }
    due.is("promises that the document tells", told.size(), 43);
    TreeMap<Integer, Integer> tests = new TreeMap<>();
    TreeSet<String> names = new TreeSet<>();
    for (Path file : sources()) {
      Matcher test = TEST.matcher(Files.readString(file));
      while (test.find()) {
        due.is(test.group(1) + " in " + file + " bears a name of its own", names.add(test.group(1)) ? 1 : 0, 1);
        tests.merge(Integer.parseInt(test.group(2)), 1, Integer::sum);
      }
    }
    for (int number : told) {
      due.is("promise " + number + " has a test", tests.containsKey(number) ? 1 : 0, 1);
    }
    System.out.println("tests of each promise: " + tests);
    due.close("EveryPromise");
  }

  private static List<Path> sources() throws IOException {
    try (Stream<Path> files = Files.list(Path.of("src/test/java"))) {
      return files.filter(file -> file.toString().endsWith(".java")).sorted().collect(Collectors.toList());
    }
  }
}
