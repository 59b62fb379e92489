import java.io.IOException;
import java.nio.file.Files;
import java.nio.file.Path;
import java.util.Arrays;
import java.util.Set;
import java.util.TreeSet;
import java.util.regex.Matcher;
import java.util.regex.Pattern;

/** The calls that README.md shows with their answers, made in the order in which it shows them. */
public final class ReadmeTest {
  private static final Check check = new Check("ReadmeTest");
  private static final Pattern TEXT = Pattern.compile(" {4}String text = \"([^\"]*)\";");
  private static final Pattern CALL = Pattern.compile(" {4}x\\.(\\w+)\\(([^)]*)\\); *// (-?\\d+)(:.*)?");

  public static void main(String[] args) throws IOException {
    String page = Files.readString(Path.of("README.md"));
    examples(page);
    everyCallIsNamed(page);
    everyTestIsNamed(page);
    check.end();
  }

  private static void examples(String page) {
    String text = "";
    SnowPaths x = new SnowPaths();
    int calls = 0;
    for (String line : page.split("\n")) {
      Matcher green = TEXT.matcher(line);
      Matcher call = CALL.matcher(line);
      if (green.matches()) {
        text = green.group(1);
      } else if (line.startsWith("    SnowPaths x = new SnowPaths();")) {
        x = new SnowPaths();
      } else if (line.equals("        x.type(b);")) {
        Check.typeAll(x, text);
      } else if (call.matches()) {
        calls++;
        check.due(line.trim(), Calls.make(x, call.group(1), numbers(call.group(2))), Long.parseLong(call.group(3)));
      } else {
        check.due("a line that shows a call shows its answer: " + line, !line.startsWith("    x."));
      }
    }
    check.due("calls are shown", calls > 30);
  }

  private static int[] numbers(String args) {
    String plain = args.replace("SnowPaths.NONE", "-1").replace(" ", "");
    return plain.isEmpty() ? new int[0] : Arrays.stream(plain.split(",")).mapToInt(Integer::parseInt).toArray();
  }

  private static void everyCallIsNamed(String page) {
    Set<String> named = new TreeSet<>();
    Matcher rows = Pattern.compile("(?m)^\\| (`.*?) \\|").matcher(page);
    while (rows.find()) {
      Matcher names = Pattern.compile("`(\\w+)\\(").matcher(rows.group(1));
      while (names.find()) {
        named.add(names.group(1));
      }
    }
    Set<String> due = new TreeSet<>();
    Calls.names().forEach(due::add);
    check.due("the table names the calls of the class: " + named, named.equals(due));
  }

  private static void everyTestIsNamed(String page) throws IOException {
    try (var files = Files.list(Path.of("src/test/java"))) {
      for (Path file : files.toList()) {
        String name = file.getFileName().toString().replace(".java", "");
        check.due(name + " is named", !name.endsWith("Test") || page.contains("`" + name + "`"));
      }
    }
  }
}
