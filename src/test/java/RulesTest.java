import java.io.IOException;
import java.lang.reflect.Field;
import java.lang.reflect.Member;
import java.lang.reflect.Method;
import java.lang.reflect.Modifier;
import java.nio.file.Files;
import java.nio.file.Path;
import java.util.Arrays;
import java.util.HashMap;
import java.util.Map;
import java.util.Set;
import java.util.TreeSet;
import java.util.regex.Matcher;
import java.util.regex.Pattern;

/** The face of the class, and the rules of LANGUAGE.md that can be read off the source. */
public final class RulesTest {
  private static final Check check = new Check("RulesTest");

  private static final String FACE = "int type(int) int wipe() int fault() int cell(int,int) int snows(int) "
      + "int thaws(int) int freezes() int clear(int,int) int read(int) int walker(int,int) int gone() "
      + "int plan(int,int,int) int walk(int) int morning() int all(int) int straight(int) int longer() "
      + "int orders(int) int order(int) int first(int) int yard(int) long falls(int) int grit(int,int) "
      + "long left(int,int) int tower(int,int) int towerOrder(int,int) int hints(int,int,int) "
      + "int sheet(int,int,int) int lose(int) int lay(int,int,int,int) int get(int,int,int) "
      + "int copy(int,int,int,int,int) int write(int) int count(int) long digest()";

  public static void main(String[] args) throws IOException {
    face();
    classes();
    String source = Files.readString(Path.of("src/main/java/SnowPaths.java"));
    String code = withoutComments(source);
    forbiddenWords(code);
    library(code);
    methodsAreShort(code);
    callsAreShallow(code);
    check.end();
  }

  private static void face() {
    Class<SnowPaths> face = SnowPaths.class;
    check.due("the class is public and final", face.getModifiers(), Modifier.PUBLIC | Modifier.FINAL);
    Set<String> methods = new TreeSet<>();
    for (Method m : face.getDeclaredMethods()) {
      if (Modifier.isPublic(m.getModifiers())) {
        String kinds = Arrays.toString(Arrays.stream(m.getParameterTypes()).map(Class::getName).toArray());
        methods.add(m.getReturnType() + " " + m.getName() + kinds.replaceAll("[\\[\\] ]", "")
            .replaceAll("^(.*)$", "($1)"));
      }
    }
    check.due("the methods are those of the document: " + methods, methods.equals(dueMethods()));
    check.due("one constructor", face.getDeclaredConstructors().length, 1);
    check.due("and it is public", Modifier.isPublic(face.getDeclaredConstructors()[0].getModifiers()));
    Set<String> constants = new TreeSet<>();
    for (Field f : face.getDeclaredFields()) {
      if (Modifier.isPublic(f.getModifiers())) {
        constants.add(f.getName());
      }
    }
    check.due("the constants", constants.equals(new TreeSet<>(Set.of("NONE", "BAD", "NOT", "FULL"))));
    for (Member m : face.getDeclaredMethods()) {
      onlyPublicOrPrivate(m);
    }
    for (Member m : face.getDeclaredFields()) {
      onlyPublicOrPrivate(m);
    }
  }

  private static Set<String> dueMethods() {
    return new TreeSet<>(Arrays.asList(FACE.split("(?<=\\)) ")));
  }

  private static void onlyPublicOrPrivate(Member m) {
    check.due(m.getName() + " is public or private",
        m.isSynthetic() || Modifier.isPublic(m.getModifiers()) || Modifier.isPrivate(m.getModifiers()));
  }

  private static void classes() {
    Set<String> taken = new TreeSet<>();
    for (String method : dueMethods()) {
      taken.add(method.replaceAll("^\\w+ |\\(.*", ""));
    }
    check.due("at most twelve classes", SnowPaths.class.getDeclaredClasses().length < 12);
    rulesOf(SnowPaths.class, taken);
    for (Class<?> inside : SnowPaths.class.getDeclaredClasses()) {
      check.due(inside + " is static", Modifier.isStatic(inside.getModifiers()));
      check.due(inside + " is not public", !Modifier.isPublic(inside.getModifiers()));
      rulesOf(inside, taken);
    }
  }

  private static void rulesOf(Class<?> each, Set<String> taken) {
    int fields = 0;
    for (Field f : each.getDeclaredFields()) {
      boolean constant = Modifier.isStatic(f.getModifiers());
      fields += constant ? 0 : 1;
      check.due(f + " is final if it is static", !constant || Modifier.isFinal(f.getModifiers()));
    }
    check.due(each + " has at most twenty fields", fields <= 20);
    for (Method m : each.getDeclaredMethods()) {
      check.due(m + " has at most seven parameters", m.getParameterCount() <= 7);
      check.due(m + " does not bear a public name",
          Modifier.isPublic(m.getModifiers()) || !taken.contains(m.getName()));
    }
  }

  private static String withoutComments(String source) {
    return source.replaceAll("(?s)/\\*.*?\\*/", "").replaceAll("//[^\n]*", "");
  }

  private static void forbiddenWords(String code) {
    String[] words = {"throw", "throws", "try", "catch", "synchronized", "assert", "package", "protected", "Object",
        "equals", "hashCode", "toString", "MIN_VALUE", "MAX_VALUE", "volatile", "native", "goto"};
    for (String word : words) {
      check.due("no " + word, !Pattern.compile("\\b" + word + "\\b").matcher(code).find());
    }
    check.due("no lambda", !code.contains("->"));
    check.due("no method reference", !code.contains("::"));
    check.due("no text of more than one sign", !code.contains("\""));
    check.due("only signs that anyone can read", code.chars().allMatch(c -> c == '\n' || c >= ' ' && c < 127));
  }

  private static void library(String code) {
    Matcher imports = Pattern.compile("import ([\\w.]+);").matcher(code);
    while (imports.find()) {
      check.due("import of " + imports.group(1), imports.group(1).equals("java.util.Arrays"));
    }
    Set<String> may = Set.of("Arrays.fill", "System.arraycopy", "Math.min", "Math.max", "Long.bitCount");
    Matcher calls = Pattern.compile("\\b(Arrays|System|Math|Long|Integer|String)\\.\\w+").matcher(code);
    while (calls.find()) {
      check.due(calls.group() + " is in the library", may.contains(calls.group()));
    }
    int made = code.split("\\bnew\\b").length;
    int madeOnce = code.split("(?m)^ *(private final .*|sheets\\[s\\]|stages\\[n\\]) = new\\b").length;
    check.due("objects are made when the object is, never by a call", made, madeOnce);
  }

  private static void methodsAreShort(String code) {
    int began = 0;
    String[] lines = code.split("\n");
    for (int n = 0; n < lines.length; n++) {
      if (lines[n].matches(" +(public|private) [^=;]*\\{")) {
        began = n;
      } else if (lines[n].matches(" {4}\\}| {8}\\}") && !lines[began].contains("class")) {
        check.due("the method at line " + began + " is short", n - began <= 60);
      }
    }
  }

  /** Methods of like names count as one, which can only make the depth greater. */
  private static void callsAreShallow(String code) {
    Map<String, String> bodies = new HashMap<>();
    String method = "(?m)^ +(?:public|private) (?:static )?\\w+(?:\\[\\])? (\\w+)\\([^)]*\\) \\{$";
    Matcher heads = Pattern.compile(method).matcher(code);
    while (heads.find()) {
      int ends = heads.end();
      for (int open = 1; open > 0; ends++) {
        open += code.charAt(ends) == '{' ? 1 : code.charAt(ends) == '}' ? -1 : 0;
      }
      bodies.merge(heads.group(1), code.substring(heads.end(), ends), String::concat);
    }
    check.due("methods were found", bodies.size() > 36);
    for (String name : bodies.keySet()) {
      check.due("calls from " + name + " on are at most eight deep", depth(name, bodies, 0) <= 8);
    }
  }

  private static int depth(String name, Map<String, String> bodies, int above) {
    if (above > 20 || !bodies.containsKey(name)) {
      return above > 20 ? 1000 : 1;
    }
    int deepest = 0;
    Matcher calls = Pattern.compile("\\b(\\w+)\\(").matcher(bodies.get(name));
    while (calls.find()) {
      boolean word = Set.of("if", "for", "while", "switch").contains(calls.group(1));
      deepest = Math.max(deepest, word ? 0 : depth(calls.group(1), bodies, above + 1));
    }
    return deepest + 1;
  }
}
