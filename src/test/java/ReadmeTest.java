import java.lang.reflect.Method;
import java.lang.reflect.Modifier;
import java.nio.file.Files;
import java.nio.file.Path;
import java.util.HashMap;
import java.util.Map;
import java.util.regex.Matcher;
import java.util.regex.Pattern;

/** README.md tells of each call, and the calls of its example answer what stands beside them. */
public final class ReadmeTest {
  private static final Pattern EXAMPLE = Pattern.compile("(?s)```java\n(.*?)```");
  private static final Pattern CALL =
      Pattern.compile("(?:for \\(int i = 0; i < (\\d+); i\\+\\+\\) )?(?:int (\\w+) = )?house\\.(\\w+)\\((.*?)\\); *(?:// (.*))?");
  private static final Pattern ANSWER = Pattern.compile("(-?\\d+|NONE)(?:$|[:,].*)");

  private final MeetHouse house = new MeetHouse();
  private final Map<String, Integer> known = new HashMap<>();

  private static Method method(String name) {
    for (Method m : MeetHouse.class.getDeclaredMethods()) {
      if (m.getName().equals(name) && Modifier.isPublic(m.getModifiers())) return m;
    }
    return null;
  }

  private int value(String word) {
    return known.containsKey(word) ? known.get(word) : Integer.parseInt(word);
  }

  private long ask(String name, String words) throws ReflectiveOperationException {
    String[] each = words.isEmpty() ? new String[0] : words.split(", ");
    Object[] numbers = new Object[each.length];
    for (int i = 0; i < each.length; i++) numbers[i] = value(each[i]);
    Object answer = method(name).invoke(house, numbers);
    return answer instanceof Boolean ? ((Boolean) answer ? 1 : 0) : ((Number) answer).longValue();
  }

  private void line(String line) throws ReflectiveOperationException {
    Matcher call = CALL.matcher(line);
    Due.is("can be read: " + line, call.matches(), true);
    if (!call.matches()) return;
    int turns = call.group(1) == null ? 1 : Integer.parseInt(call.group(1));
    long answer = 0;
    for (int i = 0; i < turns; i++) {
      known.put("i", i);
      answer = ask(call.group(3), call.group(4));
    }
    if (call.group(2) != null) known.put(call.group(2), (int) answer);
    Matcher due = ANSWER.matcher(call.group(5) == null ? "" : call.group(5));
    if (due.matches()) Due.is(line, answer, due.group(1).equals("NONE") ? MeetHouse.NONE : Long.parseLong(due.group(1)));
  }

  private void example(String text) throws ReflectiveOperationException {
    Matcher block = EXAMPLE.matcher(text);
    Due.is("README.md has an example", block.find(), true);
    for (String line : block.group(1).split("\n")) {
      if (!line.equals("MeetHouse house = new MeetHouse();")) line(line);
    }
  }

  public static void main(String[] args) throws Exception {
    String text = Files.readString(Path.of("README.md"));
    new ReadmeTest().example(text);
    for (Method m : MeetHouse.class.getDeclaredMethods()) {
      if (Modifier.isPublic(m.getModifiers())) Due.is("README.md tells of " + m.getName(), text.contains("`" + m.getName() + "`"), true);
    }
    Due.end();
  }
}
