import java.io.StringWriter;
import java.lang.reflect.Method;
import java.lang.reflect.Modifier;
import java.net.URL;
import java.net.URLClassLoader;
import java.nio.charset.StandardCharsets;
import java.nio.file.Files;
import java.nio.file.Path;
import java.util.ArrayList;
import java.util.Comparator;
import java.util.List;
import java.util.Map;
import java.util.Set;
import java.util.TreeMap;
import java.util.TreeSet;
import java.util.regex.Matcher;
import java.util.regex.Pattern;
import java.util.stream.Stream;
import javax.tools.JavaCompiler;
import javax.tools.ToolProvider;

/**
 * What README.md shows of the class's use: each piece of Java compiles as it stands there, each call
 * answers the number at the head of its comment, and every call of the face is shown with its answer.
 */
public final class ReadmeTest {
  private static final Pattern PIECE = Pattern.compile("(?ms)^```(\\w+)\\n(.*?)^```$");
  private static final Pattern TOLD = Pattern.compile("^(int \\w+ = )?(x\\.(\\w+)\\(.*\\)); +// (-?[0-9]+)(:.*)?$");
  private static final Pattern CALL = Pattern.compile("\\bx\\.\\w+\\(");
  private static final Pattern TEST_NAMED = Pattern.compile("(?m)^- `(\\w+)`:");
  private static final String[] FINDINGS = {"BEYOND", "FULL", "KIND", "NONE", "STATE", "MISSING", "SIZE"};
  private static final int MOST_CALLS = 512;

  /** The pieces are compiled against this class, which keeps what their calls answered. */
  static int asked = 0;
  static int wrong = 0;

  public static void main(String[] args) throws Exception {
    String readme = Files.readString(Path.of(System.getProperty("hostagekings.readme", "README.md")), StandardCharsets.UTF_8);
    List<String> java = pieces(readme, "java");
    must(java.size() >= 7, "README.md shows only " + java.size() + " pieces of Java");
    Set<String> shown = new TreeSet<>();
    for (int i = 0; i < java.size(); i++) {
      allTold(i, java.get(i), shown);
    }
    must(shown.equals(face()), "the face is " + face() + ", shown with an answer is " + shown);
    if (wrong == 0) {
      answers(java);
    }
    findings(readme);
    tests(readme);
    System.out.println(java.size() + " pieces, " + asked + " answers looked at, " + wrong + " not as README.md says");
    if (wrong != 0) {
      System.exit(1);
    }
  }

  static void must(boolean holds, String what) {
    if (!holds) {
      wrong++;
      System.out.println(what);
    }
  }

  public static void due(int piece, String call, long got, long want) {
    asked++;
    must(got == want, "piece " + piece + ": " + call + " answered " + got + ", README.md says " + want);
  }

  private static List<String> pieces(String readme, String language) {
    List<String> found = new ArrayList<>();
    Matcher matcher = PIECE.matcher(readme);
    while (matcher.find()) {
      if (matcher.group(1).equals(language)) {
        found.add(matcher.group(2));
      }
    }
    return found;
  }

  private static Set<String> face() {
    Set<String> names = new TreeSet<>();
    for (Method method : HostageKings.class.getDeclaredMethods()) {
      if (Modifier.isPublic(method.getModifiers())) {
        names.add(method.getName());
      }
    }
    return names;
  }

  /** Every call but those inside a loop has its answer told; or else a wrong one could hide. */
  private static void allTold(int piece, String code, Set<String> shown) {
    String[] lines = code.split("\n");
    must(lines[0].equals("HostageKings x = new HostageKings();"), "piece " + piece + " starts without an object");
    for (String line : lines) {
      Matcher told = TOLD.matcher(line);
      if (told.matches()) {
        shown.add(told.group(3));
      } else {
        must(line.startsWith("  ") || !CALL.matcher(line).find(), "piece " + piece + " tells no answer: " + line);
      }
    }
    must(lines.length < MOST_CALLS / 4, "piece " + piece + " is long for one object");
  }

  private static void answers(List<String> pieces) throws Exception {
    Path folder = Files.createTempDirectory("readme");
    try {
      StringBuilder asShown = new StringBuilder("public final class AsShown {\n");
      StringBuilder asked = new StringBuilder("public final class Asked {\n  public static void main(String[] args) {\n");
      for (int i = 0; i < pieces.size(); i++) {
        asShown.append("static void piece").append(i).append("() {\n").append(pieces.get(i)).append("}\n");
        asked.append("{\n").append(asking(i, pieces.get(i))).append("}\n");
      }
      boolean compiles = compiles(folder, "AsShown", asShown.append("}\n").toString())
          && compiles(folder, "Asked", asked.append("}\n}\n").toString());
      if (compiles) {
        runIn(folder);
      }
    } finally {
      remove(folder);
    }
  }

  /** A piece with each answer handed on to due. */
  private static String asking(int piece, String code) {
    StringBuilder made = new StringBuilder();
    for (String line : code.split("\n")) {
      Matcher told = TOLD.matcher(line);
      if (!told.matches()) {
        made.append(line).append('\n');
        continue;
      }
      String call = told.group(2);
      String answer = call;
      if (told.group(1) != null) {
        made.append(told.group(1)).append(call).append(";\n");
        answer = told.group(1).split(" ")[1];
      }
      String quoted = call.replace("\\", "\\\\").replace("\"", "\\\"");
      made.append("ReadmeTest.due(").append(piece).append(", \"").append(quoted).append("\", ").append(answer)
          .append(", ").append(told.group(4)).append("L);\n");
    }
    return made.toString();
  }

  private static boolean compiles(Path folder, String name, String code) throws Exception {
    Path file = folder.resolve(name + ".java");
    Files.writeString(file, code, StandardCharsets.UTF_8);
    JavaCompiler compiler = ToolProvider.getSystemJavaCompiler();
    must(compiler != null, "there is no Java compiler beside this java");
    if (compiler == null) {
      return false;
    }
    StringWriter said = new StringWriter();
    List<String> options = List.of("--release", "17", "-d", folder.toString(), "-cp", System.getProperty("java.class.path"));
    boolean fine = compiler.getTask(said, null, null, options, null,
        compiler.getStandardFileManager(null, null, null).getJavaFileObjects(file)).call();
    must(fine, "what README.md shows doesn't compile:\n" + said);
    return fine;
  }

  private static void runIn(Path folder) throws Exception {
    URL[] places = {folder.toUri().toURL()};
    try (URLClassLoader loader = new URLClassLoader(places, ReadmeTest.class.getClassLoader())) {
      loader.loadClass("Asked").getMethod("main", String[].class).invoke(null, (Object) new String[0]);
    }
    must(asked > 0, "no answer was looked at");
  }

  private static void remove(Path folder) throws Exception {
    try (Stream<Path> all = Files.walk(folder)) {
      for (Path path : (Iterable<Path>) all.sorted(Comparator.reverseOrder())::iterator) {
        Files.delete(path);
      }
    }
  }

  /** Each finding is shown with its number, and never with another one's. */
  private static void findings(String readme) {
    Map<String, String> shown = new TreeMap<>();
    Matcher matcher = Pattern.compile("(-10000000[0-9]+): ([A-Z]+)").matcher(readme);
    while (matcher.find()) {
      String before = shown.put(matcher.group(2), matcher.group(1));
      must(before == null || before.equals(matcher.group(1)), matcher.group(2) + " is told by two numbers");
    }
    Map<String, String> due = new TreeMap<>();
    for (int f = 0; f < FINDINGS.length; f++) {
      due.put(FINDINGS[f], String.valueOf(-1000000001 - f));
    }
    must(shown.equals(due), "README.md tells the findings " + shown);
  }

  /** README.md names the tests that there are, and the script that runs them is there to be run. */
  private static void tests(String readme) throws Exception {
    Set<String> named = new TreeSet<>();
    Matcher matcher = TEST_NAMED.matcher(readme);
    while (matcher.find()) {
      named.add(matcher.group(1));
    }
    Set<String> there = new TreeSet<>();
    try (Stream<Path> files = Files.list(Path.of("src/test/java"))) {
      files.forEach(file -> there.add(file.getFileName().toString().replace(".java", "")));
    }
    must(named.equals(there), "README.md names the tests " + named + ", there are " + there);
    List<String> commands = pieces(readme, "sh");
    must(commands.equals(List.of(".ci/run\n")), "README.md tells to run " + commands);
    must(Files.isExecutable(Path.of(".ci/run")), ".ci/run can't be run");
  }
}
