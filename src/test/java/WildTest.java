import java.lang.reflect.InvocationTargetException;
import java.lang.reflect.Method;
import java.lang.reflect.Modifier;
import java.util.ArrayList;
import java.util.Comparator;
import java.util.List;
import java.util.Random;

/** Rule 7 of LANGUAGE.md: no call throws, whatever its arguments are and whatever came before it. */
public final class WildTest {
  private static final int[] EDGES = {0, 1, 2, 3, 4, 5, 7, 15, 16, 17, 24, 60, 119, 120, 121, 1000, 1001, 7139, 7140,
      65535, 65536, -1, -2, -16, Integer.MAX_VALUE, Integer.MIN_VALUE, Integer.MAX_VALUE - 1, Integer.MIN_VALUE + 1};

  private static List<Method> face() {
    List<Method> methods = new ArrayList<>();
    for (Method m : MeetHouse.class.getDeclaredMethods()) if (Modifier.isPublic(m.getModifiers())) methods.add(m);
    methods.sort(Comparator.comparing(Method::getName));
    return methods;
  }

  private static Object argument(Random random, Class<?> type) {
    if (type == boolean.class) return random.nextBoolean();
    int kind = random.nextInt(4);
    if (kind == 0) return EDGES[random.nextInt(EDGES.length)];
    return kind == 1 ? random.nextInt(1 << random.nextInt(17)) : random.nextInt(6);
  }

  public static void main(String[] args) throws IllegalAccessException {
    List<Method> face = face();
    for (int seed = 0; seed < 500; seed++) {
      Random random = new Random(seed);
      MeetHouse x = new MeetHouse();
      int keepers = random.nextInt(17);
      for (int i = 0; i < keepers; i++) x.keeper(1 + random.nextInt(100), random.nextInt(11));
      for (int call = 0; call < 490; call++) {
        Method m = face.get(random.nextInt(face.size()));
        Object[] all = new Object[m.getParameterCount()];
        for (int i = 0; i < all.length; i++) all[i] = argument(random, m.getParameterTypes()[i]);
        try {
          m.invoke(x, all);
        } catch (InvocationTargetException e) {
          Due.is(m.getName() + " " + java.util.Arrays.toString(all) + " threw " + e.getCause() + ", seed " + seed, 1, 0);
        }
        int status = x.status();
        Due.is("a status of 0 to 7 behind " + m.getName(), status >= 0 && status <= 7, true);
      }
    }
    Due.end();
  }
}
