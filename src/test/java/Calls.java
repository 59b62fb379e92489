import java.lang.reflect.Method;
import java.lang.reflect.Modifier;
import java.util.Arrays;
import java.util.Map;
import java.util.TreeMap;

/** Makes calls by name, so that a table can hold them. */
final class Calls {
  private static final Map<String, Method> METHODS = new TreeMap<>();

  static {
    for (Method m : SnowPaths.class.getDeclaredMethods()) {
      if (Modifier.isPublic(m.getModifiers())) {
        METHODS.put(m.getName(), m);
      }
    }
  }

  private Calls() {
  }

  static long make(SnowPaths x, String name, int... args) {
    Object[] boxed = Arrays.stream(args).boxed().toArray();
    try {
      return ((Number) METHODS.get(name).invoke(x, boxed)).longValue();
    } catch (ReflectiveOperationException e) {
      throw new IllegalStateException(told(name, args), e);
    }
  }

  static String told(String name, int... args) {
    return name + Arrays.toString(args).replace('[', '(').replace(']', ')');
  }

  static boolean answersLong(String name) {
    return METHODS.get(name).getReturnType() == long.class;
  }

  static int arguments(String name) {
    return METHODS.get(name).getParameterCount();
  }

  static Iterable<String> names() {
    return METHODS.keySet();
  }
}
