import java.io.File;
import java.io.IOException;
import java.nio.file.Files;
import java.nio.file.Path;
import java.util.ArrayList;
import java.util.Comparator;
import java.util.List;
import java.util.concurrent.TimeUnit;
import java.util.regex.Matcher;
import java.util.regex.Pattern;
import java.util.stream.Stream;

/**
 * What README.md says is true as it is written there: the example's calls give the answers told, the commands run, and
 * .ci/run runs every test and fails if one fails. All of it is tried in copies, so nothing is left in the project.
 */
public final class Readme {
  private static final Path TESTS = Path.of("src/test/java");
  private static final Pattern CALL = Pattern.compile("^\\s*(town\\.\\w+\\(.*?\\));\\s*(?:// (-?\\d+)\\b)?.*$");
  private static final int MOST_SECONDS = 120;

  private static int looked = 0;
  private static int wrong = 0;

  private static void holds(String told, boolean so) {
    looked++;
    if (!so) {
      wrong++;
      System.out.println("README.md: " + told);
    }
  }

  private static List<String> blocks(String readme, String language) {
    List<String> found = new ArrayList<>();
    Matcher m = Pattern.compile("```" + language + "\n(.*?)```", Pattern.DOTALL).matcher(readme);
    while (m.find()) {
      found.add(m.group(1));
    }
    return found;
  }

  // ---- copies to try things in

  /** A project and what it shares, with the program and .ci/run, but no tests. */
  private static Path copyWithoutTests(Path place) throws IOException {
    Path project = place.resolve("main");
    copy(Path.of("src/main/java/OneEach.java"), project.resolve("src/main/java/OneEach.java"));
    Path runner = project.resolve(".ci/run");
    copy(Path.of(".ci/run"), runner);
    holds(".ci/run can't be executed", Files.isExecutable(Path.of(".ci/run")) && runner.toFile().setExecutable(true));
    Files.createDirectories(project.resolve(TESTS));
    Files.createDirectories(place.resolve("shared/tests"));
    return project;
  }

  private static void copy(Path from, Path to) throws IOException {
    Files.createDirectories(to.getParent());
    Files.copy(from, to);
  }

  private static void copyAll(Path from, Path to) throws IOException {
    for (Path file : filesOf(from)) {
      copy(file, to.resolve(file.getFileName()));
    }
  }

  private static List<Path> filesOf(Path directory) throws IOException {
    try (Stream<Path> files = Files.list(directory)) {
      return files.filter(Files::isRegularFile).sorted().toList();
    }
  }

  private static void remove(Path place) throws IOException {
    try (Stream<Path> all = Files.walk(place)) {
      all.sorted(Comparator.reverseOrder()).map(Path::toFile).forEach(File::delete);
    }
  }

  /** How it ended; what it told stands in the file "told" beside the project. */
  private static int run(Path project, String... command) throws IOException, InterruptedException {
    File told = project.resolveSibling("told").toFile();
    Process process = new ProcessBuilder(command).directory(project.toFile()).redirectErrorStream(true)
        .redirectOutput(told).start();
    if (!process.waitFor(MOST_SECONDS, TimeUnit.SECONDS)) {
      process.destroyForcibly();
      return -1;
    }
    return process.exitValue();
  }

  private static String told(Path project) throws IOException {
    return Files.readString(project.resolveSibling("told"));
  }

  // ---- the example and the commands

  /** The example, but each call is told, and it ends at the first whose answer isn't the one beside it. */
  private static String checked(String example) {
    StringBuilder checked = new StringBuilder();
    for (String line : example.split("\n")) {
      Matcher m = CALL.matcher(line);
      if (m.matches() && m.group(2) != null) {
        checked.append("due(\"").append(m.group(1)).append("\", ").append(m.group(1)).append(", ")
            .append(m.group(2)).append(");\n");
      } else {
        holds("an answer isn't told: " + line.strip(), !m.matches());
        checked.append(line).append('\n');
      }
    }
    int end = checked.lastIndexOf("}");
    return checked.insert(end, """
          private static void due(String call, long got, long want) {
            System.out.println(call + " answered " + got + ", README.md tells " + want);
            if (got != want) {
              System.exit(1);
            }
          }
        """).toString();
  }

  private static void example(String readme, Path place) throws IOException, InterruptedException {
    Path project = copyWithoutTests(place);
    copyAll(TESTS, project.resolve(TESTS));
    copyAll(Path.of("../shared"), place.resolve("shared"));
    copyAll(Path.of("../shared/tests"), place.resolve("shared/tests"));
    List<String> examples = blocks(readme, "java");
    List<String> commands = blocks(readme, "sh");
    holds("not one example", examples.size() == 1);
    holds("not three blocks of commands", commands.size() == 3);
    Path written = project.resolve("Example.java");
    Files.writeString(written, String.join("\n", examples));
    for (String command : commands) {
      int end = run(project, "sh", "-e", "-c", command);
      holds("it ended with " + end + ":\n" + command + told(project), end == 0);
    }
    Files.writeString(written, checked(String.join("\n", examples)));
    int end = run(project, "sh", "-e", "-c", commands.isEmpty() ? "false" : commands.get(0));
    holds("an answer of the example isn't as told:\n" + told(project), end == 0);
    holds("the example asks for little", told(project).split("\n").length > 20);
  }

  // ---- what .ci/run does

  private static String test(String name, boolean passes) {
    String end = passes ? "" : "System.exit(1);";
    return "public final class " + name + " { public static void main(String[] a) { new OneEach(); "
        + "System.out.println(\"" + name + " was run\"); " + end + " } }\n";
  }

  private static void ends(Path project, String told, boolean passes) throws IOException, InterruptedException {
    int end = run(project, project.resolve(".ci/run").toString());
    holds(".ci/run ended with " + end + ", " + told + ":\n" + told(project), end == (passes ? 0 : 1));
  }

  private static void runner(Path place) throws IOException, InterruptedException {
    Path project = copyWithoutTests(place);
    Path own = project.resolve(TESTS);
    Path shared = place.resolve("shared/tests");
    Files.writeString(own.resolve("Own.java"), test("Own", true));
    ends(project, "no shared tests", false);
    Files.writeString(shared.resolve("Shared.java"), test("Shared", true));
    ends(project, "all tests pass", true);
    String told = told(project);
    holds("not every test is run: " + told, told.contains("Own was run") && told.contains("Shared was run"));
    Files.writeString(own.resolve("Own.java"), test("Own", false));
    ends(project, "a test of the project fails", false);
    holds("the tests behind one that fails aren't run", told(project).contains("Shared was run"));
    Files.writeString(own.resolve("Own.java"), test("Own", true));
    Files.writeString(shared.resolve("Shared.java"), test("Shared", false));
    ends(project, "a shared test fails", false);
    Files.writeString(shared.resolve("Shared.java"), "public final class Shared {");
    ends(project, "a shared test doesn't compile", false);
  }

  // ---- the names

  private static void names(String readme) throws IOException {
    for (Path file : filesOf(TESTS)) {
      holds("it doesn't name the test " + file, readme.contains("- `" + file.getFileName() + "`: "));
    }
    Matcher m = Pattern.compile("(?m)^- `(\\w+\\.java)`").matcher(readme);
    while (m.find()) {
      holds("there is no test " + m.group(1), Files.exists(TESTS.resolve(m.group(1))));
    }
    List<String> classes = new ArrayList<>();
    for (Class<?> c : OneEach.class.getDeclaredClasses()) {
      classes.add(c.getSimpleName());
      holds("it doesn't name the class " + c.getSimpleName(), readme.contains("`" + c.getSimpleName() + "`"));
    }
    m = Pattern.compile("(?m)^- (`[A-Z]\\w+`(?:, `[A-Z]\\w+`)*): ").matcher(readme);
    while (m.find()) {
      for (String name : m.group(1).replace("`", "").split(", ")) {
        holds("there is no class " + name, classes.contains(name));
      }
    }
  }

  public static void main(String[] args) throws IOException, InterruptedException {
    String readme = Files.readString(Path.of("README.md"));
    names(readme);
    Path place = Files.createTempDirectory("readme");
    try {
      example(readme, place.resolve("example"));
      runner(place.resolve("runner"));
    } finally {
      remove(place);
    }
    System.out.println(wrong == 0 ? looked + " things are as README.md says" : wrong + " are not as README.md says");
    if (wrong != 0) {
      System.exit(1);
    }
  }
}
