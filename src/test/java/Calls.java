import java.lang.reflect.Method;
import java.lang.reflect.Modifier;
import java.util.Arrays;
import java.util.Map;
import java.util.TreeMap;

/** Makes calls of the class, or of the model, by name, so that a table can hold them. */
final class Calls {
  private static final Map<String, Method> REAL = methodsOf(SnowPaths.class);
  private static final Map<String, Method> MODEL = methodsOf(Model.class);

  private Calls() {
  }

  private static Map<String, Method> methodsOf(Class<?> of) {
    Map<String, Method> found = new TreeMap<>();
    for (Method m : of.getDeclaredMethods()) {
      if (Modifier.isPublic(m.getModifiers())) {
        found.put(m.getName(), m);
      }
    }
    return found;
  }

  static long make(SnowPaths x, String name, int... args) {
    return invoke(REAL, x, name, args);
  }

  static long make(Model x, String name, int... args) {
    return invoke(MODEL, x, name, args);
  }

  private static long invoke(Map<String, Method> methods, Object x, String name, int... args) {
    Object[] boxed = Arrays.stream(args).boxed().toArray();
    try {
      return ((Number) methods.get(name).invoke(x, boxed)).longValue();
    } catch (ReflectiveOperationException e) {
      throw new IllegalStateException(told(name, args), e);
    }
  }

  static String told(String name, int... args) {
    return name + Arrays.toString(args).replace('[', '(').replace(']', ')');
  }

  static boolean answersLong(String name) {
    return REAL.get(name).getReturnType() == long.class;
  }

  static int arguments(String name) {
    return REAL.get(name).getParameterCount();
  }

  static Iterable<String> names() {
    return REAL.keySet();
  }
}
