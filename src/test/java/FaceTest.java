import java.lang.reflect.Constructor;
import java.lang.reflect.Field;
import java.lang.reflect.Method;
import java.lang.reflect.Modifier;
import java.util.Set;
import java.util.TreeSet;

/** The public face, and rule 1 of LANGUAGE.md: nothing else can be seen of the class. */
public final class FaceTest {
  private static final String[] FACE = {
    "int keeper(int,int)", "boolean tenths(int,int)", "int keeperOf(int,int)", "int list(int)", "int told()",
    "int most(int)", "int grid(int,int,int)", "int wall(int,int,int,int,int,int)", "int tree(int,int)",
    "int plane(int,int)", "int join(int,int,int)", "int dual(int)", "int thin(int,int)", "int both(int,int)",
    "int better(int)", "int family(int,int)", "int quorum(int,int)", "int has(int,int)", "int apart(int,int)",
    "int hit(int)", "int falls(int)", "int liars(int,boolean)", "long chance(int)", "boolean even(int)",
    "boolean part(int,int)", "int partOf(int)", "int load(int)", "int loadOf(int,boolean)", "boolean weight(int,int)",
    "int bound(int,boolean)", "int proved()", "int witness(int)", "int names(int)", "boolean forge(int,int)",
    "int judge(int)", "int lay(int,int,int)", "int lies(int)", "int taken(int,int,int)",
    "int copy(int,int,int,int,int)", "int use(int)", "int undo()", "int size(int)", "int status()"};

  private static String told(Method m) {
    StringBuilder b = new StringBuilder();
    b.append(m.getReturnType().getName()).append(' ').append(m.getName()).append('(');
    for (int i = 0; i < m.getParameterCount(); i++) {
      b.append(i == 0 ? "" : ",").append(m.getParameterTypes()[i].getName());
    }
    return b.append(')').toString();
  }

  private static void members() {
    Set<String> due = new TreeSet<>(Set.of(FACE));
    Set<String> names = new TreeSet<>();
    for (Method m : MeetHouse.class.getDeclaredMethods()) {
      if (Modifier.isPublic(m.getModifiers())) {
        names.add(m.getName());
        Due.is("of the face: " + told(m), due.remove(told(m)), true);
        Due.is("not static: " + m.getName(), Modifier.isStatic(m.getModifiers()), false);
      } else {
        Due.is("private: " + m.getName(), Modifier.isPrivate(m.getModifiers()), true);
      }
    }
    Due.is("missing " + due, due.size(), 0);
    for (Method m : MeetHouse.class.getDeclaredMethods()) {
      if (!Modifier.isPublic(m.getModifiers())) Due.is("a name of the face: " + m.getName(), names.contains(m.getName()), false);
    }
    for (Class<?> c : MeetHouse.class.getDeclaredClasses()) {
      Due.is("static: " + c.getName(), Modifier.isStatic(c.getModifiers()), true);
      for (Method m : c.getDeclaredMethods()) Due.is("a name of the face: " + m.getName(), names.contains(m.getName()), false);
    }
  }

  private static void fields() {
    for (Field f : MeetHouse.class.getDeclaredFields()) {
      boolean isNone = f.getName().equals("NONE");
      Due.is("public: " + f.getName(), Modifier.isPublic(f.getModifiers()), isNone);
      Due.is("private: " + f.getName(), Modifier.isPrivate(f.getModifiers()), !isNone);
      if (Modifier.isStatic(f.getModifiers())) Due.is("final: " + f.getName(), Modifier.isFinal(f.getModifiers()), true);
    }
    Due.is("NONE", MeetHouse.NONE, -1);
  }

  public static void main(String[] args) {
    Due.is("public and final", MeetHouse.class.getModifiers(), Modifier.PUBLIC | Modifier.FINAL);
    Constructor<?>[] all = MeetHouse.class.getDeclaredConstructors();
    Due.is("one constructor", all.length, 1);
    Due.is("public", Modifier.isPublic(all[0].getModifiers()), true);
    Due.is("without parameters", all[0].getParameterCount(), 0);
    members();
    fields();
    Due.end();
  }
}
