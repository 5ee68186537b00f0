import java.io.IOException;
import java.lang.reflect.Method;
import java.lang.reflect.Modifier;
import java.nio.file.Files;
import java.nio.file.Path;
import java.nio.file.StandardCopyOption;
import java.util.ArrayList;
import java.util.Comparator;
import java.util.List;
import java.util.Set;
import java.util.TreeSet;
import java.util.regex.Matcher;
import java.util.regex.Pattern;
import java.util.stream.Stream;

/**
 * That what README.md says is so. Its example and its commands are run as they stand there, in a copy of the
 * project; the copy has few tests, and not this one, so that .ci/run ends. It is run from the project's folder.
 */
public final class Readme {
  private static final String ONE_CALL = "public final class HornBraider { public int many(int what) { return 1; } }";
  private static final String PASSES = "if (new HornBraider().many(0) != 1) System.exit(1);";
  private static final String FAILS = "if (new HornBraider().many(0) != 2) System.exit(1);";
  private static final String THROWS = "throw new IllegalStateException(\"as it is meant to\");";
  private static final String NO_JAVA = "new HornBraider().none();";

  private static int wrong = 0;
  private static int asked = 0;
  private static String page;
  private static Path root;
  private static Path main;

  public static void main(String[] args) throws IOException, InterruptedException {
    page = Files.readString(Path.of("README.md"));
    root = Files.createTempDirectory("readme");
    main = root.resolve("main");
    try {
      copyProject();
      example();
      oneTest();
      allTests();
      failures();
      names();
    } finally {
      remove(root);
    }
    System.out.println(wrong == 0 ? asked + " things that README.md says are so" : wrong + " of " + asked + " are not so");
    if (wrong != 0) System.exit(1);
  }

  private static void must(boolean holds, String what) {
    asked++;
    if (!holds) {
      wrong++;
      System.out.println(what);
    }
  }

  // ---- the example

  private static void example() throws IOException, InterruptedException {
    List<String> examples = blocks("java");
    must(examples.size() == 1, "README.md has " + examples.size() + " examples, not one");
    Files.writeString(main.resolve("Example.java"), examples.get(0));
    Answer answer = run(commandsWith("Example"));
    must(answer.code == 0, "the example ends with " + answer.code + ": " + answer.text);
    List<String> calls = new ArrayList<>();
    List<String> said = new ArrayList<>();
    for (String line : examples.get(0).split("\n")) {
      Matcher m = Pattern.compile("^\\s+show\\((.*)\\);\\s*(// (-?\\d+): .+)?$").matcher(line);
      if (m.matches()) {
        must(m.group(2) != null, "no answer is told of " + m.group(1));
        calls.add(m.group(1));
        said.add(m.group(3));
      }
    }
    List<String> printed = answer.text.lines().toList();
    must(calls.size() >= 20 && printed.size() == calls.size(), calls.size() + " calls, " + printed.size() + " answers");
    for (int i = 0; i < Math.min(calls.size(), printed.size()); i++) {
      must(printed.get(i).equals(said.get(i)), calls.get(i) + " answers " + printed.get(i) + ", README.md says " + said.get(i));
    }
  }

  // ---- the commands

  private static void oneTest() throws IOException, InterruptedException {
    Answer answer = run(commandsWith("RandomRuns"));
    must(answer.code == 0, "one test by itself ends with " + answer.code + ": " + answer.text);
    must(answer.text.contains("all answers are as due"), "one test by itself prints " + answer.text);
  }

  /** For what .ci/run does, a class of one call is enough, and sooner compiled. */
  private static void allTests() throws IOException, InterruptedException {
    must(Files.isExecutable(Path.of(".ci/run")), ".ci/run can't be executed");
    must(commandsWith(".ci/run").equals(".ci/run\n"), "README.md tells .ci/run otherwise");
    Files.writeString(main.resolve("src/main/java/HornBraider.java"), ONE_CALL);
    Files.delete(main.resolve("src/test/java/RandomRuns.java"));
    Files.writeString(main.resolve("src/test/java/Good.java"), test("Good", PASSES));
    Files.writeString(root.resolve("shared/tests/Fine.java"), test("Fine", PASSES));
    expect(0, "all tests", "2 tests ran, 0 failed");
  }

  /** Each way in which a test can fail makes .ci/run fail. */
  private static void failures() throws IOException, InterruptedException {
    Path project = main.resolve("src/test/java");
    Path shared = root.resolve("shared/tests");
    for (Path place : List.of(project, shared)) {
      Files.writeString(place.resolve("Bad.java"), test("Bad", FAILS));
      expect(1, "a test that fails in " + place, "3 tests ran, 1 failed");
      Files.writeString(place.resolve("Worse.java"), test("Worse", THROWS));
      Files.writeString(place.resolve("Worst.java"), test("Worst", NO_JAVA));
      expect(1, "three tests that fail in " + place, "5 tests ran, 3 failed");
      for (String name : List.of("Bad", "Worse", "Worst")) {
        Files.delete(place.resolve(name + ".java"));
      }
    }
    Files.move(shared, root.resolve("shared/gone"));
    expect(1, "no ../shared/tests", "../shared/tests is not there");
  }

  private static String test(String name, String body) {
    return "public final class " + name + " { public static void main(String[] args) { " + body + " } }";
  }

  private static void expect(int code, String what, String said) throws IOException, InterruptedException {
    Answer answer = run(commandsWith(".ci/run"));
    must(answer.code == code, what + ": .ci/run ends with " + answer.code + ", due is " + code + ": " + answer.text);
    must(answer.text.contains(said), what + ": .ci/run prints " + answer.text);
  }

  // ---- the names

  private static void names() throws IOException {
    Set<String> tests = new TreeSet<>();
    try (Stream<Path> files = Files.list(Path.of("src/test/java"))) {
      files.forEach(file -> tests.add(file.getFileName().toString().replace(".java", "")));
    }
    must(found("(?m)^- `(\\w+)`: ").equals(tests), "README.md tells of the tests " + found("(?m)^- `(\\w+)`: ") + ", there are " + tests);
    Set<String> face = new TreeSet<>();
    for (Method m : HornBraider.class.getDeclaredMethods()) {
      if (Modifier.isPublic(m.getModifiers())) face.add(m.getName());
    }
    Set<String> told = new TreeSet<>();
    for (String row : page.lines().filter(line -> line.startsWith("| ") && line.contains(" | `")).toList()) {
      Matcher m = Pattern.compile("`(\\w+)`").matcher(row);
      while (m.find()) told.add(m.group(1));
    }
    must(told.equals(face), "README.md tells of the calls " + told + ", there are " + face);
    Set<String> parts = new TreeSet<>();
    for (Class<?> c : HornBraider.class.getDeclaredClasses()) {
      parts.add(c.getSimpleName());
    }
    String made = page.substring(page.indexOf("## How it is made"));
    for (String part : parts) {
      must(made.contains("`" + part + "`"), "README.md does not tell of " + part);
    }
  }

  private static Set<String> found(String pattern) {
    Set<String> all = new TreeSet<>();
    Matcher m = Pattern.compile(pattern).matcher(page.substring(0, page.indexOf("## How it is made")));
    while (m.find()) all.add(m.group(1));
    return all;
  }

  // ---- help

  private static List<String> blocks(String kind) {
    List<String> all = new ArrayList<>();
    Matcher m = Pattern.compile("(?s)```" + kind + "\n(.*?)```").matcher(page);
    while (m.find()) all.add(m.group(1));
    return all;
  }

  private static String commandsWith(String word) {
    for (String block : blocks("sh")) {
      if (block.contains(word)) return block;
    }
    must(false, "README.md has no command with " + word);
    return "exit 1";
  }

  private record Answer(int code, String text) { }

  private static Answer run(String commands) throws IOException, InterruptedException {
    Path output = root.resolve("output");
    Process process = new ProcessBuilder("sh", "-e", "-c", commands).directory(main.toFile())
        .redirectErrorStream(true).redirectOutput(output.toFile()).start();
    int code = process.waitFor();
    return new Answer(code, Files.readString(output));
  }

  private static void copyProject() throws IOException {
    for (String file : List.of(".ci/run", "src/main/java/HornBraider.java", "src/test/help/Due.java", "src/test/java/RandomRuns.java")) {
      Path to = main.resolve(file);
      Files.createDirectories(to.getParent());
      Files.copy(Path.of(file), to, StandardCopyOption.COPY_ATTRIBUTES);
    }
    Files.createDirectories(root.resolve("shared/tests"));
  }

  private static void remove(Path all) throws IOException {
    try (Stream<Path> files = Files.walk(all)) {
      for (Path file : files.sorted(Comparator.reverseOrder()).toList()) {
        Files.delete(file);
      }
    }
  }
}
