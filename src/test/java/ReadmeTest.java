import java.io.IOException;
import java.nio.file.Files;
import java.nio.file.Path;
import java.util.regex.Matcher;
import java.util.regex.Pattern;

/** Each call of README.md's examples answers what the comment behind it says first. */
public final class ReadmeTest extends Checks {
  private static final Pattern EXAMPLE = Pattern.compile("(?s)```java\n(.*?)```");
  private static final Pattern ROW = Pattern.compile("x\\.(\\w+\\([^)]*\\)); +// (-?\\d+).*");
  private static final Pattern MADE = Pattern.compile("PolicyRoutes x = new PolicyRoutes\\(\\); +//.*");

  /** A letter as Java writes it, '0', becomes its number. */
  private static String withNumbers(String call) {
    return Pattern.compile("'(.)'").matcher(call).replaceAll(letter -> String.valueOf((int) letter.group(1).charAt(0)));
  }

  private static int follow(String example) {
    PolicyRoutes x = new PolicyRoutes();
    int rows = 0;
    for (String line : example.split("\n")) {
      Matcher row = ROW.matcher(line);
      if (row.matches()) {
        on(x, "README.md", withNumbers(row.group(1)) + " " + row.group(2));
        rows++;
      } else {
        due("README.md, a row that can't be followed: " + line, MADE.matcher(line).matches() || line.isBlank() ? 0 : 1, 0);
      }
    }
    return rows;
  }

  public static void main(String[] args) throws IOException {
    Matcher examples = EXAMPLE.matcher(Files.readString(Path.of("README.md")));
    int rows = 0;
    while (examples.find()) rows += follow(examples.group(1));
    due("README.md has examples", rows > 0 ? 1 : 0, 1);
    end();
  }
}
