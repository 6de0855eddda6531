import java.lang.reflect.Method;
import java.lang.reflect.Modifier;
import java.net.URL;
import java.net.URLClassLoader;
import java.nio.file.Files;
import java.nio.file.Path;
import java.util.ArrayList;
import java.util.List;
import java.util.regex.Matcher;
import java.util.regex.Pattern;
import java.util.stream.Stream;
import javax.tools.ToolProvider;

/** README.md holds: its example answers what stands behind each call, and it leaves out no call and no test. */
public final class SortedPagesReadme {
  private static final Path TESTS = Path.of("src/test/java");
  /** A call by itself on a row, and behind it the answer: a number or a constant's name. */
  private static final Pattern ANSWERED = Pattern.compile("(x\\.\\w+\\([^()]*\\));\\s*// (-?\\d+|BAD|STATE|FULL|NONE)\\b.*");
  private static final int FEWEST_ANSWERS = 10;

  private static int wrong = 0;

  private static void fault(String text) {
    wrong++;
    System.out.println(text);
  }

  /** Called by what is made of the example. */
  public static void due(String call, long got, long want) {
    if (got != want) fault("README.md: " + call + " answered " + got + ", due is " + want);
  }

  private static String example(String readme) {
    Matcher block = Pattern.compile("(?s)```java\n(.*?)```").matcher(readme);
    return block.find() ? block.group(1) : "";
  }

  private static String program(String example) {
    StringBuilder body = new StringBuilder();
    int answers = 0;
    for (String row : example.split("\n")) {
      Matcher answered = ANSWERED.matcher(row);
      if (!answered.matches()) {
        if (row.contains("//")) fault("README.md: no answer is told by '" + row + "'");
        body.append(row).append('\n');
        continue;
      }
      answers++;
      String call = answered.group(1);
      String answer = answered.group(2);
      String want = Character.isLetter(answer.charAt(0)) ? "SortedPages." + answer : answer;
      body.append("SortedPagesReadme.due(\"").append(call).append("\", ").append(call).append(", ").append(want).append(");\n");
    }
    if (answers < FEWEST_ANSWERS) fault("README.md: the example has only " + answers + " answers");
    return "public class Example { public static void run() {\n" + body + "} }\n";
  }

  private static void runExample(String readme) throws Exception {
    Path out = Files.createTempDirectory("readme");
    Path source = out.resolve("Example.java");
    try {
      Files.writeString(source, program(example(readme)));
      int failed = ToolProvider.getSystemJavaCompiler().run(null, null, null, "-proc:none", "-cp", System.getProperty("java.class.path"),
        "-d", out.toString(), source.toString());
      if (failed != 0) {
        fault("README.md: the example can't be compiled");
        return;
      }
      try (URLClassLoader loader = new URLClassLoader(new URL[] {out.toUri().toURL()})) {
        loader.loadClass("Example").getMethod("run").invoke(null);
      }
    } finally {
      Files.deleteIfExists(source);
      Files.deleteIfExists(out.resolve("Example.class"));
      Files.deleteIfExists(out);
    }
  }

  private static void nothingIsLeftOut(String readme) throws Exception {
    for (Method method : SortedPages.class.getDeclaredMethods()) {
      boolean open = Modifier.isPublic(method.getModifiers());
      if (open && !readme.contains("| `" + method.getName() + "(")) fault("README.md does not tell the call " + method.getName());
    }
    List<Path> tests = new ArrayList<>();
    try (Stream<Path> all = Files.list(TESTS)) {
      all.forEach(tests::add);
    }
    for (Path test : tests) {
      String name = test.getFileName().toString().replace(".java", "");
      if (!readme.contains("`" + name + "`")) fault("README.md does not name the test " + name);
    }
    if (!readme.contains("\n.ci/run\n")) fault("README.md does not say how the tests are run");
  }

  public static void main(String[] args) throws Exception {
    String readme = Files.readString(Path.of("README.md"));
    runExample(readme);
    nothingIsLeftOut(readme);
    System.out.println(wrong == 0 ? "README.md holds" : wrong + " rows of README.md do not hold");
    if (wrong != 0) System.exit(1);
  }
}
