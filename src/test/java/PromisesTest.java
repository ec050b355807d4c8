import java.lang.reflect.Method;
import java.nio.file.Files;
import java.nio.file.Path;
import java.util.ArrayList;
import java.util.List;
import java.util.Set;
import java.util.TreeSet;
import java.util.regex.Matcher;
import java.util.regex.Pattern;

/** Each promise of the document has cases of its own, and one at least for each STATUS that it can be refused with. */
public final class PromisesTest {
  private static final Class<?>[] TESTS = {KeepersTest.class, FamiliesTest.class, MadeOfOthersTest.class,
      MeetingsTest.class, PlansTest.class, WitnessesTest.class, CaseTest.class, UndoTest.class, StatusTest.class};

  /** By promise; 3 of told() never comes, and 1 of wall() and tree() is a keeper that isn't there. */
  private static final String[] REFUSALS = {"", "", "24", "12", "", "24", "54", "243", "2143", "2143", "2143", "214",
      "143", "143", "145", "143", "1743", "", "", "1", "1", "1", "1", "1", "1", "1", "12", "", "", "", "12", "1", "1",
      "1", "", "1", "1", "12", "1", "126", "162", "165", "", "", ""};

  private static final Pattern HEADING = Pattern.compile("(?m)^## Promise (\\d+): (.+)$");

  private static List<String> allCases() {
    List<String> names = new ArrayList<>();
    for (Class<?> test : TESTS) for (Method m : Cases.of(test)) names.add(m.getName());
    return names;
  }

  private static String beginning(int promise, String title) {
    String call = title.equals("A new object") ? "new" : title;
    return "promise" + (promise < 10 ? "0" : "") + promise + "_" + call + "_";
  }

  public static void main(String[] args) throws Exception {
    List<String> names = allCases();
    Set<String> without = new TreeSet<>(names);
    Due.is("no two cases have one name", without.size(), names.size());
    Matcher heading = HEADING.matcher(Files.readString(Path.of("../shared/DOC.md")));
    int promises = 0;
    while (heading.find()) {
      int promise = Integer.parseInt(heading.group(1));
      String begins = beginning(promise, heading.group(2).trim());
      Due.is("cases of " + begins, names.stream().anyMatch(n -> n.startsWith(begins)), true);
      without.removeIf(n -> n.startsWith(begins));
      promises++;
      for (char status : REFUSALS[promise].toCharArray()) {
        String ends = "_refused_" + status;
        Due.is("a case " + begins + ".." + ends, names.stream().anyMatch(n -> n.startsWith(begins) && n.endsWith(ends)), true);
      }
    }
    Due.is("promises of the document", promises, REFUSALS.length - 1);
    Due.is("cases of no promise: " + without, without.size(), 0);
    System.out.println(names.size() + " cases");
    Due.end();
  }
}
