import java.lang.reflect.InvocationTargetException;
import java.lang.reflect.Method;
import java.util.ArrayList;
import java.util.Comparator;
import java.util.List;

/** Runs each test of a class by itself: its methods that are named after a promise, one for each sentence. */
final class ByName {
  static final String NAME = "promise(0[1-9]|[123][0-9]|4[0-3])_\\w+";

  static void run(Class<?> tests, Due due) throws IllegalAccessException {
    List<Method> named = new ArrayList<>();
    for (Method m : tests.getDeclaredMethods()) {
      if (m.getName().matches(NAME)) {
        named.add(m);
      }
    }
    named.sort(Comparator.comparing(Method::getName));
    for (Method m : named) {
      due.begin(m.getName());
      try {
        m.invoke(null);
      } catch (InvocationTargetException broken) {
        due.same("its end", String.valueOf(broken.getCause()), "nothing is thrown");
      }
    }
    due.close(tests.getName() + ", " + named.size() + " tests");
  }
}
