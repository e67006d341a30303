import java.io.ByteArrayOutputStream;
import java.io.IOException;
import java.io.PrintStream;
import java.net.URL;
import java.net.URLClassLoader;
import java.nio.charset.StandardCharsets;
import java.nio.file.Files;
import java.nio.file.Path;
import java.util.ArrayList;
import java.util.LinkedHashMap;
import java.util.List;
import java.util.Map;
import java.util.TreeSet;
import java.util.regex.Matcher;
import java.util.regex.Pattern;
import java.util.stream.Stream;
import javax.tools.ToolProvider;

// README.md: its examples compile and answer as they say; its tables have each call with its refusals, and each test.
public final class ReadmeTest {
  private static final Path README = Path.of("README.md"), TESTS = Path.of("src/test/java");
  private static final Path DOCUMENT = Path.of("../shared/DOC.md");
  private static final String NEW_OBJECT = "AllPrograms x = new AllPrograms();";
  private static final Pattern ASKED = Pattern.compile("(x\\.(\\w+)\\(.*\\)); +// (-?\\d+)(: .*)?");
  private static final Pattern REFUSAL = Pattern.compile("\\b(BAD|NOT|FULL|STATE|VOID|Long\\.MIN_VALUE)\\b|(?<!\\d)-1[1-4]\\b");

  private static void holds(String what, boolean good) {
    Due.due("README.md: " + what, good ? 1 : 0, 1);
  }

  /** What stands between the lines ``` of a kind. */
  private static List<String> blocks(String readme, String kind) {
    List<String> all = new ArrayList<>();
    Matcher fence = Pattern.compile("```" + kind + "\n(.*?)```\n", Pattern.DOTALL).matcher(readme);
    while (fence.find()) all.add(fence.group(1));
    return all;
  }

  /** Compiles a class without a package and runs its main: what it prints. */
  private static String printed(String name, String source) throws Exception {
    Path folder = Files.createTempDirectory("readme");
    Path file = folder.resolve(name + ".java");
    Files.writeString(file, source);
    int code = ToolProvider.getSystemJavaCompiler().run(null, System.out, System.out,
        "-proc:none", "-cp", System.getProperty("java.class.path"), "-d", folder.toString(), file.toString());
    holds(name + " compiles", code == 0);
    PrintStream before = System.out;
    ByteArrayOutputStream bytes = new ByteArrayOutputStream();
    try (URLClassLoader loader = new URLClassLoader(new URL[] {folder.toUri().toURL()})) {
      if (code != 0) return "";
      System.setOut(new PrintStream(bytes, true, StandardCharsets.UTF_8));
      loader.loadClass(name).getMethod("main", String[].class).invoke(null, (Object) new String[0]);
    } finally {
      System.setOut(before);
      remove(folder);
    }
    return bytes.toString(StandardCharsets.UTF_8).replace(System.lineSeparator(), "\n");
  }

  private static void remove(Path folder) throws IOException {
    List<Path> files;
    try (Stream<Path> inside = Files.list(folder)) {
      files = inside.toList();
    }
    for (Path file : files) Files.delete(file);
    Files.delete(folder);
  }

  /** A whole class stands in README.md, and behind it what it prints. */
  private static void checkWholeExample(String readme, String source) throws Exception {
    String said = blocks(readme.substring(readme.indexOf(source)), "text").get(0);
    holds("the example prints what stands behind it", printed("Example", source).equals(said));
  }

  /** Calls on a new object, each with its answer behind it. */
  private static void checkAnswers(int number, String example, TreeSet<String> called) throws Exception {
    String name = "Answers" + number;
    StringBuilder body = new StringBuilder();
    holds("example " + number + " begins with a new object", example.startsWith(NEW_OBJECT + "\n"));
    for (String line : example.substring(example.indexOf('\n') + 1).split("\n")) {
      Matcher asked = ASKED.matcher(line);
      holds("a call and its answer: " + line, asked.matches());
      if (!asked.matches()) continue;
      called.add(asked.group(2));
      body.append("Due.due(\"README.md: example ").append(number).append(": ").append(asked.group(1).replace("\"", "\\\""))
          .append("\", ").append(asked.group(1)).append(", ").append(asked.group(3)).append("L);\n");
    }
    String wrong = printed(name, "public class " + name + " { public static void main(String[] none) {\n"
        + NEW_OBJECT + "\n" + body + "} }\n");
    System.out.print(wrong);
  }

  /** The calls as the document's face has them, without types, and what each one's promise refuses with. */
  private static Map<String, String> promised() throws IOException {
    Map<String, String> all = new LinkedHashMap<>();
    Matcher promise = Pattern.compile("\n`(?:int|long) (\\w+)\\(([^)]*)\\)`: ([^\n]*)").matcher(Files.readString(DOCUMENT));
    while (promise.find()) {
      all.put(promise.group(1) + "(" + promise.group(2).replaceAll("(int|long) ", "") + ")", refusals(promise.group(3)));
    }
    return all;
  }

  /** In the order in which they are named first; one that stands for all others stands alone. */
  private static String refusals(String text) {
    List<String> all = new ArrayList<>();
    Matcher one = REFUSAL.matcher(text);
    while (one.find()) if (!all.contains(one.group())) all.add(one.group());
    if (all.contains("VOID")) return "VOID";
    if (all.contains("Long.MIN_VALUE")) return "Long.MIN_VALUE";
    return String.join(" ", all);
  }

  private static void checkTables(String readme) throws IOException {
    Map<String, String> told = new LinkedHashMap<>();
    Matcher row = Pattern.compile("\n(?=\\| `(\\w+\\([^)]*\\))` \\| [^|\n]* \\|([^|\n]*)\\|\n)").matcher(readme);
    while (row.find()) holds(row.group(1) + " has one row", told.put(row.group(1), refusals(row.group(2))) == null);
    Map<String, String> promised = promised();
    holds("36 - 1 calls are promised", promised.size() == 35);
    holds("the calls in the document's order: " + told.keySet(), List.copyOf(told.keySet()).equals(List.copyOf(promised.keySet())));
    for (String call : promised.keySet()) {
      holds(call + " refuses with " + promised.get(call) + ", not " + told.get(call), promised.get(call).equals(told.get(call)));
    }
  }

  private static void checkNumbers(String readme) throws ReflectiveOperationException {
    for (String name : List.of("BAD", "NOT", "FULL", "STATE", "VOID")) {
      holds(name + " and its number", readme.contains("\n| `" + name + "` | " + AllPrograms.class.getField(name).getInt(null) + " |"));
    }
    holds("Long.MIN_VALUE and its number", readme.contains("\n| `Long.MIN_VALUE` | " + Long.MIN_VALUE + " |"));
  }

  private static void checkTests(String readme) throws IOException {
    TreeSet<String> told = new TreeSet<>();
    Matcher row = Pattern.compile("\n\\| `(\\w+Test)` \\|").matcher(readme);
    while (row.find()) told.add(row.group(1));
    TreeSet<String> there = new TreeSet<>();
    try (Stream<Path> files = Files.list(TESTS)) {
      files.forEach(file -> there.add(file.getFileName().toString().replace(".java", "")));
    }
    holds("the tests that it names: " + told + ", those that there are: " + there, told.equals(there));
    holds("how to run them", readme.contains("\n    bash .ci/run\n"));
  }

  public static void main(String[] args) throws Exception {
    String readme = Files.readString(README);
    List<String> examples = blocks(readme, "java");
    holds("a whole example, and some of calls", examples.size() > 1);
    checkWholeExample(readme, examples.get(0));
    TreeSet<String> called = new TreeSet<>();
    for (int i = 1; i < examples.size(); i++) checkAnswers(i, examples.get(i), called);
    for (String call : promised().keySet()) {
      holds(call + " stands in an example", called.contains(call.substring(0, call.indexOf('('))));
    }
    checkTables(readme);
    checkNumbers(readme);
    checkTests(readme);
    Due.end();
  }
}
