import java.nio.file.Files;
import java.nio.file.Path;
import java.util.ArrayList;
import java.util.List;
import java.util.regex.Matcher;
import java.util.regex.Pattern;

/** The examples of README.md: each call there has the answer that stands behind it. Run from the project's directory. */
public final class ChartForestReadme extends Checks {
  private static final Pattern MADE = Pattern.compile("ChartForest x = new ChartForest\\((\\d+)\\);.*");
  private static final Pattern CALL = Pattern.compile("x\\.(\\w+)\\(([^)]*)\\);\\s*// (throws \\w+|[^\\s:]+)(:.*)?");

  private static List<List<String>> examples() throws Exception {
    List<List<String>> examples = new ArrayList<>();
    boolean inside = false;
    for (String line : Files.readAllLines(Path.of("README.md"))) {
      if (line.equals("```java")) {
        examples.add(new ArrayList<>());
        inside = true;
      } else if (line.equals("```")) {
        inside = false;
      } else if (inside) {
        examples.get(examples.size() - 1).add(line);
      }
    }
    return examples;
  }

  private static void run(List<String> example) {
    Matcher made = MADE.matcher(example.get(0));
    if (!made.matches()) throw new AssertionError(example.get(0));
    ChartForest x = new ChartForest(Integer.parseInt(made.group(1)));
    for (String line : example.subList(1, example.size())) {
      Matcher call = CALL.matcher(line);
      if (!call.matches()) throw new AssertionError(line);
      String words = (call.group(1) + " " + call.group(2).replace(",", "")).trim();
      rows(x, words + " = " + call.group(3).replace("throws ", "throws."));
    }
  }

  public static void main(String[] args) throws Exception {
    List<List<String>> examples = examples();
    check("README.md has examples", () -> due("examples", examples::size, 2));
    for (List<String> example : examples) check("README.md, " + example.get(0), () -> run(example));
    end();
  }
}
