import java.io.IOException;
import java.lang.reflect.Constructor;
import java.lang.reflect.Field;
import java.lang.reflect.Member;
import java.lang.reflect.Method;
import java.lang.reflect.Modifier;
import java.nio.file.Files;
import java.nio.file.Path;
import java.util.Arrays;
import java.util.List;
import java.util.Set;
import java.util.TreeSet;
import java.util.regex.Pattern;

/** The public face of the document, and the rules of LANGUAGE.md that words alone can break. */
public final class FaceTest {
  private static final Check CHECK = new Check();

  private static final Set<String> FACE = new TreeSet<>(Arrays.asList(
      "int duct(int,int,int,int)", "int wire(int,int,int,int)", "int apart(int,int,boolean)",
      "int lay(int)", "int lift(int)", "int way(int,int)", "int length(int)",
      "int left(int,boolean)", "int loss(int,int)", "int clashes()", "int far(int,int)",
      "int two(int,int)", "int net(int)", "int splice(int)", "int option(int,int)",
      "int order(int,int)", "int setup(int)", "int weight(int)", "long best()", "int loom(int)",
      "int alike()", "int pin(int,int)", "int tests()", "int side(int,int)", "int shows(int,int)",
      "int pairs(int)", "int count(int)"));

  public static void main(String[] args) throws IOException {
    constants();
    methods();
    insideClasses();
    sizes();
    words();
    methodLengths();
    CHECK.end();
  }

  private static void constants() {
    CHECK.due("UNKNOWN", CableLooms.UNKNOWN, -1);
    CHECK.due("OUTSIDE", CableLooms.OUTSIDE, -2);
    CHECK.due("STATE", CableLooms.STATE, -3);
    CHECK.due("FULL", CableLooms.FULL, -4);
    CHECK.due("NONE", CableLooms.NONE, -9);
    Set<String> names = new TreeSet<>();
    for (Field field : CableLooms.class.getDeclaredFields()) {
      if (isSeen(field)) {
        names.add(Modifier.toString(field.getModifiers()) + " " + field.getName());
      }
    }
    CHECK.isTrue("five constants are seen: " + names, names.equals(new TreeSet<>(Arrays.asList(
        "public static final UNKNOWN", "public static final OUTSIDE", "public static final STATE",
        "public static final FULL", "public static final NONE"))));
  }

  private static void methods() {
    int modifiers = CableLooms.class.getModifiers();
    CHECK.isTrue("public and final", Modifier.isPublic(modifiers) && Modifier.isFinal(modifiers));
    Constructor<?>[] constructors = CableLooms.class.getDeclaredConstructors();
    CHECK.isTrue("one public constructor", constructors.length == 1
        && Modifier.isPublic(constructors[0].getModifiers())
        && constructors[0].getParameterCount() == 0);
    Set<String> seen = new TreeSet<>();
    Set<String> names = new TreeSet<>();
    for (Method method : CableLooms.class.getDeclaredMethods()) {
      if (isSeen(method)) {
        CHECK.due(method + " is public alone", method.getModifiers(), Modifier.PUBLIC);
        seen.add(signature(method));
        names.add(method.getName());
      }
    }
    CHECK.isTrue("the face is " + FACE + ", seen is " + seen, seen.equals(FACE));
    for (Method method : CableLooms.class.getDeclaredMethods()) {
      CHECK.isTrue("no private method bears a public one's name: " + method.getName(),
          isSeen(method) || !names.contains(method.getName()));
    }
  }

  private static void insideClasses() {
    Class<?>[] inside = CableLooms.class.getDeclaredClasses();
    CHECK.isTrue("at most twelve classes", inside.length < 12);
    for (Class<?> one : inside) {
      int modifiers = one.getModifiers();
      CHECK.isTrue(one.getName() + " is static and not public", Modifier.isStatic(modifiers)
          && !Modifier.isPublic(modifiers) && !Modifier.isProtected(modifiers));
      for (Field field : one.getDeclaredFields()) {
        CHECK.isTrue(field + " is final if it is static", !Modifier.isStatic(field.getModifiers())
            || Modifier.isFinal(field.getModifiers()));
      }
    }
  }

  private static void sizes() {
    Set<String> publicNames = new TreeSet<>();
    for (String signature : FACE) {
      publicNames.add(signature.replaceAll(".* (\\w+)\\(.*", "$1"));
    }
    for (Class<?> one : CableLooms.class.getDeclaredClasses()) {
      for (Method method : one.getDeclaredMethods()) {
        CHECK.isTrue(method + " is not private with a public one's name",
            isSeen(method) || !publicNames.contains(method.getName()));
        CHECK.isTrue(method + " takes at most seven", method.getParameterCount() <= 7);
      }
      int fields = 0;
      for (Field field : one.getDeclaredFields()) {
        fields += Modifier.isStatic(field.getModifiers()) ? 0 : 1;
      }
      CHECK.isTrue(one.getName() + " has at most twenty fields: " + fields, fields <= 20);
    }
  }

  private static void methodLengths() throws IOException {
    int began = -1;
    int methods = 0;
    List<String> lines = Files.readAllLines(Path.of("src/main/java/CableLooms.java"));
    for (int i = 0; i < lines.size(); i++) {
      if (lines.get(i).matches("( {4}| {8})\\w.*\\) \\{") && began < 0) {
        began = i;
      }
      if (began >= 0 && lines.get(i).equals(lines.get(began).replaceAll("\\S.*", "") + "}")) {
        CHECK.isTrue("at most sixty lines: " + lines.get(began), i - began < 60);
        began = -1;
        methods++;
      }
    }
    CHECK.isTrue("methods were found: " + methods, methods > FACE.size() && began < 0);
  }

  private static void words() throws IOException {
    String source = Files.readString(Path.of("src/main/java/CableLooms.java"));
    String code = source.replaceAll("(?s)/\\*.*?\\*/", " ").replaceAll("//[^\n]*", " ");
    String[] banned = {"\\bthrow\\b", "\\bthrows\\b", "\\btry\\b", "\\bcatch\\b", "\\bassert\\b",
        "\\bsynchronized\\b", "\\bpackage\\b", "->", "::", "Exact\\b", "\\bvar\\b", "\\bObject\\b",
        "\\bSystem\\.(?!arraycopy)", "\\bimport (?!java\\.util\\.(Arrays|ArrayList|List|Iterator);)"};
    for (String word : banned) {
      CHECK.isTrue("the source has no " + word, !Pattern.compile(word).matcher(code).find());
    }
    for (String line : code.split("\n")) {
      CHECK.isTrue("objects are made by constructors alone: " + line,
          !line.contains("new ") || line.matches(" +(private )?final .* = new .*;"));
    }
    CHECK.isTrue("the source has characters 0 to 127 alone", source.chars().allMatch(c -> c < 128));
  }

  private static boolean isSeen(Member member) {
    return !Modifier.isPrivate(member.getModifiers()) && !member.isSynthetic();
  }

  private static String signature(Method method) {
    StringBuilder text = new StringBuilder();
    text.append(method.getReturnType().getName()).append(' ').append(method.getName()).append('(');
    String comma = "";
    for (Class<?> type : method.getParameterTypes()) {
      text.append(comma).append(type.getName());
      comma = ",";
    }
    return text.append(')').toString();
  }
}
