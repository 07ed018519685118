import java.lang.reflect.Constructor;
import java.lang.reflect.Field;
import java.lang.reflect.Method;
import java.lang.reflect.Modifier;
import java.nio.charset.StandardCharsets;
import java.nio.file.Files;
import java.nio.file.Path;
import java.util.ArrayList;
import java.util.Arrays;
import java.util.HashMap;
import java.util.HashSet;
import java.util.LinkedHashMap;
import java.util.List;
import java.util.Map;
import java.util.Set;
import java.util.TreeSet;
import java.util.regex.Matcher;
import java.util.regex.Pattern;

/** What can be seen of ../shared/LANGUAGE.md in the source and in the compiled class. */
public final class RulesTest {
  private static final String[] FACE = {
    "fear 2", "kingOf 2", "child 3", "of 2", "move 2", "worth 2", "turn 2", "as 2", "dies 1", "swap 2", "treaty 4",
    "treatyOf 2", "gain 2", "pledge 2", "ease 1", "loose 0", "pact 2", "plot 0", "fall 0", "wouldFall 1", "pulls 1",
    "keystone 0", "months 1", "now 1", "on 1", "moves 1", "best 1", "key 1", "toFree 2", "way 2", "feed 2", "wipe 0",
    "court 0", "sheet 3", "write 3", "copy 5", "lays 1", "roll 1", "read 1", "image 0", "undo 0", "tear 0", "count 1",
    "status 1"};
  private static final Set<String> JOINED = Set.of("Math.min", "Math.max", "Integer.bitCount", "System.arraycopy");
  private static final Pattern METHOD =
      Pattern.compile("\\n +(?:(?:public|private|static|final) )*(?:[\\w\\[\\]]+ )?(\\w+)\\(([^()]*)\\) \\{\\n");
  private static final Set<String> NO_METHODS = Set.of("if", "for", "while", "switch");

  private static int wrong = 0;

  private static void must(boolean holds, String rule) {
    if (!holds) {
      wrong++;
      System.out.println("rule " + rule);
    }
  }

  public static void main(String[] args) throws Exception {
    String path = System.getProperty("hostagekings.source", "src/main/java/HostageKings.java");
    String source = Files.readString(Path.of(path), StandardCharsets.UTF_8);
    String code = bare(source);
    face();
    classes();
    words(source, code);
    Map<String, String> methods = methods(code);
    shape(methods);
    depth(methods);
    System.out.println(methods.size() + " methods looked at, " + wrong + " rules not kept");
    if (wrong != 0) {
      System.exit(1);
    }
  }

  /** The source with comments left out and texts and signs emptied. */
  private static String bare(String source) {
    String code = source.replaceAll("(?s)/\\*.*?\\*/", "").replaceAll("//[^\n]*", "");
    return code.replaceAll("\"[^\"]*\"", "\"\"").replaceAll("'[^']*'", "' '");
  }

  private static void face() {
    Set<String> got = new TreeSet<>();
    for (Method method : HostageKings.class.getDeclaredMethods()) {
      if (Modifier.isPublic(method.getModifiers())) {
        got.add(method.getName() + " " + method.getParameterCount());
        Class<?> answer = method.getName().equals("write") ? long.class : int.class;
        must(method.getReturnType() == answer, "1: " + method + " answers another type");
        for (int i = 0; i < method.getParameterCount(); i++) {
          Class<?> type = method.getName().equals("write") && i == 2 ? long.class : int.class;
          must(method.getParameterTypes()[i] == type, "1: " + method + " takes another type");
        }
      } else {
        must(Modifier.isPrivate(method.getModifiers()), "1: " + method + " is neither public nor private");
      }
    }
    must(got.equals(new TreeSet<>(Arrays.asList(FACE))), "1: the face is " + got);
    Constructor<?>[] made = HostageKings.class.getDeclaredConstructors();
    must(made.length == 1 && made[0].getParameterCount() == 0 && Modifier.isPublic(made[0].getModifiers()),
        "1: the constructor");
    must(Modifier.isFinal(HostageKings.class.getModifiers()), "1: the class is final");
    for (Field field : HostageKings.class.getDeclaredFields()) {
      must(Modifier.isPrivate(field.getModifiers()), "1: " + field + " is not private");
    }
  }

  private static void classes() {
    List<Class<?>> all = new ArrayList<>(Arrays.asList(HostageKings.class.getDeclaredClasses()));
    must(all.size() <= 11, "11: at most some twelve classes");
    Set<String> publics = new HashSet<>();
    for (String row : FACE) {
      publics.add(row.substring(0, row.indexOf(' ')));
    }
    for (Class<?> inside : all) {
      must(Modifier.isStatic(inside.getModifiers()), "2: " + inside + " is not static");
      for (Method method : inside.getDeclaredMethods()) {
        must(!publics.contains(method.getName()), "1: " + method + " bears a name of the face");
      }
    }
    for (Method method : HostageKings.class.getDeclaredMethods()) {
      must(!Modifier.isPrivate(method.getModifiers()) || !publics.contains(method.getName()),
          "1: " + method + " bears a name of the face");
    }
    all.add(HostageKings.class);
    for (Class<?> each : all) {
      int fields = 0;
      for (Field field : each.getDeclaredFields()) {
        boolean fixed = Modifier.isStatic(field.getModifiers());
        must(!fixed || Modifier.isFinal(field.getModifiers()), "5: " + field + " is not final");
        fields += fixed ? 0 : 1;
      }
      must(fields <= 20, "11: " + each + " has " + fields + " fields");
    }
  }

  private static void words(String source, String code) {
    must(source.chars().allMatch(c -> c == '\n' || c >= 32 && c < 127), "4: a sign that isn't 32 to 126");
    for (String word : List.of("throw", "throws", "try", "catch", "synchronized", "assert", "import", "package",
        "volatile", "native", "var", "Object", "equals", "hashCode", "toString", "double", "float")) {
      must(!Pattern.compile("\\b" + word + "\\b").matcher(code).find(), "4, 6: " + word);
    }
    must(!code.contains("->") && !code.contains("::"), "2: a lambda or method reference");
    must(!code.contains("@"), "4: an annotation");
    must(!Pattern.compile("\"\" \\+|\\+ \"\"").matcher(code).find(), "10: texts joined by +");
    Matcher library = Pattern.compile("\\b[A-Z]\\w*\\.[a-z]\\w*").matcher(code);
    while (library.find()) {
      must(JOINED.contains(library.group()), "4: " + library.group());
    }
    must(Pattern.compile("public final class (\\w+)").matcher(code).results().count() == 1, "1: one public class");
  }

  /** Bodies by name; a name that stands twice is told by both together. */
  private static Map<String, String> methods(String code) {
    Map<String, String> found = new LinkedHashMap<>();
    Matcher matcher = METHOD.matcher(code);
    int from = 0;
    while (matcher.find(from)) {
      from = matcher.end() - 1;
      if (NO_METHODS.contains(matcher.group(1))) {
        continue;
      }
      int end = matcher.end();
      for (int open = 1; open > 0; end++) {
        open += code.charAt(end) == '{' ? 1 : code.charAt(end) == '}' ? -1 : 0;
      }
      String name = matcher.group(1);
      long parameters = matcher.group(2).isEmpty() ? 0 : matcher.group(2).chars().filter(c -> c == ',').count() + 1;
      must(parameters <= 7, "11: " + name + " takes " + parameters);
      found.merge(name, code.substring(matcher.end(), end), String::concat);
    }
    return found;
  }

  private static void shape(Map<String, String> methods) {
    must(methods.size() > 60, "none: the methods were not found");
    for (Map.Entry<String, String> method : methods.entrySet()) {
      long lines = method.getValue().chars().filter(c -> c == '\n').count();
      must(lines <= 60, "11: " + method.getKey() + " has " + lines + " lines");
      boolean makes = Pattern.compile("\\bnew\\b").matcher(method.getValue()).find();
      must(!makes || method.getKey().equals("HostageKings"), "12: " + method.getKey() + " makes an object");
    }
  }

  private static void depth(Map<String, String> methods) {
    Map<String, Set<String>> calls = new HashMap<>();
    for (Map.Entry<String, String> method : methods.entrySet()) {
      Set<String> called = new HashSet<>();
      Matcher matcher = Pattern.compile("\\b(\\w+)\\(").matcher(method.getValue());
      while (matcher.find()) {
        if (methods.containsKey(matcher.group(1))) {
          called.add(matcher.group(1));
        }
      }
      calls.put(method.getKey(), called);
    }
    for (String name : methods.keySet()) {
      List<String> chain = longest(name, calls, new ArrayList<>());
      must(chain.size() <= 8, "8, 11: calls as deep as " + chain);
    }
  }

  private static List<String> longest(String name, Map<String, Set<String>> calls, List<String> above) {
    List<String> chain = new ArrayList<>(above);
    chain.add(name);
    if (above.contains(name) || chain.size() > 20) {
      return chain;
    }
    List<String> most = chain;
    for (String next : calls.get(name)) {
      List<String> deeper = longest(next, calls, chain);
      most = deeper.size() > most.size() ? deeper : most;
    }
    return most;
  }
}
