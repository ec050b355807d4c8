import java.lang.reflect.InvocationTargetException;
import java.lang.reflect.Method;
import java.util.ArrayList;
import java.util.Comparator;
import java.util.List;

/**
 * The cases of a test are its methods whose names begin with a promise: promiseNN_call_what_is_so. The
 * name of a case of a refusal ends with refused_S, S being the STATUS that is due.
 */
final class Cases {
  private Cases() {}

  static List<Method> of(Class<?> test) {
    List<Method> all = new ArrayList<>();
    for (Method m : test.getDeclaredMethods()) if (m.getName().startsWith("promise")) all.add(m);
    all.sort(Comparator.comparing(Method::getName));
    return all;
  }

  /** Runs each case; with the argument names it tells them, too. */
  static void run(Class<?> test, String[] args) {
    boolean names = args.length > 0 && args[0].equals("names");
    for (Method m : of(test)) {
      if (names) System.out.println(m.getName());
      Due.begin(m.getName());
      try {
        m.invoke(null);
      } catch (InvocationTargetException e) {
        Due.fail("threw " + e.getCause());
      } catch (IllegalAccessException e) {
        Due.fail("can't be run: " + e);
      }
      Due.endCase();
    }
    Due.end();
  }
}
