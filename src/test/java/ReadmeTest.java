import java.io.File;
import java.io.IOException;
import java.net.URL;
import java.net.URLClassLoader;
import java.nio.file.Files;
import java.nio.file.Path;
import java.util.ArrayList;
import java.util.List;
import java.util.regex.Matcher;
import java.util.regex.Pattern;

/** What README.md says holds: its examples answer what their comments begin with, its commands succeed, what it names is there. */
public final class ReadmeTest {
  /** A call with its answer: perhaps what it is kept in, the call, the number that its comment begins with. */
  private static final Pattern CALL = Pattern.compile("(?:int (\\w+) = )?(inn\\.\\w+\\(.*\\)); *// (-?\\d+): .*");
  private static final String[] CALLS = {"set", "dish", "told", "asks", "feed", "text", "force", "cook", "menu", "serve", "best", "leave", "buy", "share",
      "tells", "film", "drawn", "chance", "image", "back", "count", "sheet", "cell", "copy", "dishes", "taken"};
  private static final int FEWEST = CALLS.length + 3;
  private static int wrong = 0;

  private static void tell(String what) {
    wrong++;
    System.out.println("README.md: " + what);
  }

  /** The lines of all blocks of a language, one list a block. */
  private static List<List<String>> blocks(List<String> readme, String language) {
    List<List<String>> all = new ArrayList<>();
    List<String> open = null;
    for (String line : readme) {
      if (open != null && line.equals("```")) {
        all.add(open);
        open = null;
      } else if (open != null) {
        open.add(line);
      } else if (line.equals("```" + language)) {
        open = new ArrayList<>();
      }
    }
    if (open != null) tell("a block without an end: " + open);
    return all;
  }

  /** The examples as one program that tells which answers are not as their comments say. */
  private static String program(List<List<String>> examples) {
    StringBuilder s = new StringBuilder("public final class Examples {\n  public static int wrong = 0;\n"
        + "  static void due(String line, long got, long want) {\n"
        + "    if (got != want) { wrong++; System.out.println(\"README.md: \" + line + \" answered \" + got + \", it says \" + want); }\n  }\n"
        + "  public static void run() {\n");
    int asked = 0;
    for (List<String> block : examples) {
      for (String line : block) {
        Matcher m = CALL.matcher(line);
        if (m.matches()) {
          asked++;
          String got = m.group(1) == null ? m.group(2) : m.group(1);
          if (m.group(1) != null) s.append("    int ").append(m.group(1)).append(" = ").append(m.group(2)).append(";\n");
          s.append("    due(\"").append(m.group(2).replace("\"", "\\\"")).append("\", ").append(got).append(", ").append(m.group(3)).append("L);\n");
        } else {
          if (line.matches("(int \\w+ = )?inn\\..*")) tell("an example that does not say what it answers: " + line);
          s.append("    ").append(line).append('\n');
        }
      }
    }
    if (asked < FEWEST) tell("only " + asked + " answers are told");
    return s.append("  }\n}\n").toString();
  }

  private static void runExamples(List<List<String>> examples) throws Exception {
    String program = program(examples);
    for (String call : CALLS) {
      if (!program.contains("inn." + call + "(")) tell("no example of " + call);
    }
    Path out = Files.createTempDirectory("readme");
    Path source = out.resolve("Examples.java");
    Files.writeString(source, program);
    String path = System.getProperty("java.class.path");
    if (succeeds("the examples", List.of("javac", "-d", out.toString(), "-cp", path, source.toString()))) {
      try (URLClassLoader loader = new URLClassLoader(new URL[] {out.toUri().toURL()}, ReadmeTest.class.getClassLoader())) {
        Class<?> examplesRun = loader.loadClass("Examples");
        examplesRun.getMethod("run").invoke(null);
        wrong += examplesRun.getField("wrong").getInt(null);
      }
    }
    remove(out.toFile());
  }

  private static boolean succeeds(String what, List<String> command) throws IOException, InterruptedException {
    Process p = new ProcessBuilder(command).redirectErrorStream(true).start();
    String said = new String(p.getInputStream().readAllBytes());
    boolean well = p.waitFor() == 0;
    if (!well) tell(what + " that fail: " + command + "\n" + said);
    return well;
  }

  private static void remove(File file) {
    File[] inside = file.listFiles();
    if (inside != null) for (File f : inside) remove(f);
    if (!file.delete()) tell("can't remove " + file);
  }

  /** .ci/run itself is what runs this test; it is only looked at whether it can be run. */
  private static void runCommands(List<List<String>> commands) throws IOException, InterruptedException {
    boolean all = false;
    boolean alone = false;
    for (List<String> block : commands) {
      if (block.equals(List.of(".ci/run"))) {
        all = Files.isExecutable(Path.of(".ci/run"));
      } else {
        alone = succeeds("commands", List.of("sh", "-ec", String.join("\n", block) + "\nrm -rf \"$out\""));
      }
    }
    if (!all) tell("how to run all tests");
    if (!alone) tell("how to run one test");
  }

  private static void lookForTests(String readme) throws IOException {
    try (var tests = Files.list(Path.of("src/test/java"))) {
      for (Path test : (Iterable<Path>) tests::iterator) {
        String name = test.getFileName().toString().replace(".java", "");
        if (!readme.contains("- `" + name + "`")) tell("nothing of " + name);
      }
    }
    Matcher named = Pattern.compile("- `(\\w+Test)`").matcher(readme);
    while (named.find()) if (!Files.exists(Path.of("src/test/java", named.group(1) + ".java"))) tell("there is no " + named.group(1));
  }

  public static void main(String[] args) throws Exception {
    Path path = Path.of("README.md");
    List<String> lines = Files.readAllLines(path);
    runExamples(blocks(lines, "java"));
    runCommands(blocks(lines, "sh"));
    lookForTests(Files.readString(path));
    System.out.println(wrong == 0 ? "what README.md says holds" : wrong + " things in README.md do not hold");
    if (wrong != 0) System.exit(1);
  }
}
