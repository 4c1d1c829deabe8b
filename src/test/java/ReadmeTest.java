import java.io.IOException;
import java.lang.reflect.InvocationTargetException;
import java.lang.reflect.Method;
import java.lang.reflect.Modifier;
import java.nio.file.Files;
import java.nio.file.Path;
import java.util.ArrayList;
import java.util.Arrays;
import java.util.List;
import java.util.Map;
import java.util.Set;
import java.util.TreeMap;
import java.util.TreeSet;
import java.util.regex.Matcher;
import java.util.regex.Pattern;

/** README.md: its example answers what it says, its tables have every call and every test. */
public final class ReadmeTest {
  private static final Check CHECK = new Check();
  private static final Pattern EXAMPLE =
      Pattern.compile("looms\\.(\\w+)\\(([^)]*)\\); +// (-?\\d+)(:.*)?");
  private static final Pattern CALL_ROW =
      Pattern.compile("\\| `(\\w+)\\(([^)]*)\\)` \\|([^|]*)\\|([^|]*)\\|");
  private static final Pattern TEST_ROW = Pattern.compile("\\| `(\\w+Test)` \\|[^|]*\\|");
  private static final Pattern PROMISE =
      Pattern.compile("(?s)## Promise \\d+: (\\w+)\n\n`[^`]*`:(.*?)(?=\n## )");
  private static final Pattern REFUSAL = Pattern.compile("\\b(UNKNOWN|OUTSIDE|STATE|FULL)\\b");

  public static void main(String[] args) throws IOException, ReflectiveOperationException {
    String readme = Files.readString(Path.of("README.md"));
    String document = Files.readString(Path.of("../shared/DOC.md"));
    example(readme);
    calls(readme, document);
    constants(readme);
    tests(readme);
    CHECK.end();
  }

  private static void example(String readme)
      throws IllegalAccessException, InvocationTargetException {
    String lead = "```java\nCableLooms looms = new CableLooms();\n";
    int start = readme.indexOf(lead);
    CHECK.isTrue("there is an example", start >= 0);
    if (start < 0) {
      return;
    }
    String rows = readme.substring(start + lead.length());
    rows = rows.substring(0, rows.indexOf("```"));
    CableLooms looms = new CableLooms();
    for (String row : rows.split("\n")) {
      Matcher call = EXAMPLE.matcher(row);
      CHECK.isTrue("a call and its answer: " + row, call.matches());
      if (call.matches()) {
        CHECK.due(row, answer(looms, call.group(1), call.group(2)), Long.parseLong(call.group(3)));
      }
    }
  }

  private static long answer(CableLooms looms, String name, String list)
      throws IllegalAccessException, InvocationTargetException {
    String[] words = list.isEmpty() ? new String[0] : list.split(", ");
    Object[] values = new Object[words.length];
    for (int i = 0; i < words.length; i++) {
      boolean isFlag = words[i].equals("true") || words[i].equals("false");
      values[i] = isFlag ? (Object) Boolean.valueOf(words[i]) : (Object) Integer.valueOf(words[i]);
    }
    return ((Number) face().get(name).invoke(looms, values)).longValue();
  }

  private static Map<String, Method> face() {
    Map<String, Method> face = new TreeMap<>();
    for (Method method : CableLooms.class.getDeclaredMethods()) {
      if (Modifier.isPublic(method.getModifiers())) {
        face.put(method.getName(), method);
      }
    }
    return face;
  }

  private static void calls(String readme, String document) {
    Map<String, String> promises = promises(document);
    Set<String> told = new TreeSet<>();
    for (String line : readme.split("\n")) {
      Matcher row = CALL_ROW.matcher(line);
      if (row.matches()) {
        String name = row.group(1);
        CHECK.isTrue(name + " is a call, and told once",
            face().containsKey(name) && promises.containsKey(name) && told.add(name));
        row(row, face().get(name), promises.get(name));
      }
    }
    CHECK.isTrue("all calls are told: " + told, told.equals(face().keySet()));
  }

  private static void row(Matcher row, Method call, String promise) {
    if (call == null || promise == null) {
      return;
    }
    int words = row.group(2).isEmpty() ? 0 : row.group(2).split(", ").length;
    CHECK.due(call.getName() + " takes", words, call.getParameterCount());
    CHECK.isTrue(call.getName() + " is refused as " + refusals(promise),
        refusals(row.group(4)).equals(refusals(promise)));
    CHECK.isTrue(call.getName() + " tells of NONE if the document does",
        row.group(3).contains("`NONE`") == promise.contains("NONE"));
  }

  private static Map<String, String> promises(String document) {
    Map<String, String> promises = new TreeMap<>();
    Matcher promise = PROMISE.matcher(document);
    while (promise.find()) {
      promises.put(promise.group(1), promise.group(2));
    }
    return promises;
  }

  // In the order in which they are named, as that order decides between several.
  private static List<String> refusals(String text) {
    List<String> found = new ArrayList<>();
    Matcher refusal = REFUSAL.matcher(text);
    while (refusal.find()) {
      found.add(refusal.group(1));
    }
    return found;
  }

  private static void constants(String readme) {
    String[] told = {"`UNKNOWN` (" + CableLooms.UNKNOWN + ")", "`OUTSIDE` (" + CableLooms.OUTSIDE + ")",
        "`STATE` (" + CableLooms.STATE + ")", "`FULL` (" + CableLooms.FULL + ")",
        "`NONE` (" + CableLooms.NONE + ")"};
    for (String words : told) {
      CHECK.isTrue("README.md has " + words, readme.contains(words));
    }
  }

  private static void tests(String readme) {
    Set<String> told = new TreeSet<>();
    for (String line : readme.split("\n")) {
      Matcher row = TEST_ROW.matcher(line);
      if (row.matches()) {
        told.add(row.group(1) + ".java");
      }
    }
    String[] files = Path.of("src/test/java").toFile().list((dir, name) -> name.endsWith("Test.java"));
    Set<String> there = new TreeSet<>(files == null ? List.of() : Arrays.asList(files));
    CHECK.isTrue("README.md tells of " + there + " and has " + told, told.equals(there));
  }
}
