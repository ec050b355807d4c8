import java.nio.file.Files;
import java.nio.file.Path;
import java.util.List;
import java.util.regex.Matcher;
import java.util.regex.Pattern;

/** Rules of LANGUAGE.md that can be seen in the text of the class; it runs in the folder of the project. */
public final class LanguageTest {
  private static final String[] FORBIDDEN = {
    "\\bthrow\\b", "\\bthrows\\b", "\\btry\\b", "\\bcatch\\b", "\\bfinally\\b", "\\bsynchronized\\b", "\\bassert\\b",
    "\\bimport\\b", "\\bpackage\\b", "->", "::", "\\bprotected\\b", "\\bvolatile\\b", "\\bnative\\b", "\\bvar\\b",
    "Exact\\b", "\\bhashCode\\b", "\\btoString\\b", "\\bSystem\\b", "\\bThread\\b", "\\bRandom\\b", "\\bObject\\b",
    "static\\s*\\{", "while\\s*\\(\\s*true", "for\\s*\\(\\s*;\\s*;\\s*\\)", "\"[^\"]*\"\\s*\\+", "\\bdouble\\b", "\\bfloat\\b"};

  private static final List<String> LIBRARY = List.of("Integer.bitCount", "Long.bitCount", "Math.max", "Math.min");

  private static String withoutComments(String text) {
    return text.replaceAll("(?s)/\\*.*?\\*/", "").replaceAll("//[^\n]*", "");
  }

  private static void words(String code) {
    for (String word : FORBIDDEN) Due.is("the code has " + word, Pattern.compile(word).matcher(code).find(), false);
    Matcher calls = Pattern.compile("\\b(Integer|Long|Math|Arrays|String)\\.\\w+").matcher(code);
    while (calls.find()) Due.is("of the library: " + calls.group(), LIBRARY.contains(calls.group()), true);
    Due.is("static fields are final", Pattern.compile("static (?!final|boolean \\w+\\(|int \\w+\\(|long \\w+\\(|void \\w+\\(|final class)").matcher(code).find(), false);
  }

  private static void lengths(String text) {
    String[] lines = text.split("\n");
    int start = -1;
    String indent = "";
    for (int i = 0; i < lines.length; i++) {
      Matcher head = Pattern.compile("^( {4}| {8})(public |private |static |final )*[\\w\\[\\]]+ ?\\w*\\((.*)\\) \\{$").matcher(lines[i]);
      if (start < 0 && head.matches()) {
        start = i;
        indent = head.group(1);
        Due.is("at most seven parameters: " + lines[i].trim(), head.group(3).split(",").length <= 7, true);
      } else if (start >= 0 && lines[i].equals(indent + "}")) {
        Due.is("at most sixty lines: " + lines[start].trim(), i - start + 1 <= 60, true);
        start = -1;
      }
    }
    Due.is("at most twelve classes", text.split("\\bclass \\w+ \\{", -1).length - 1 <= 12, true);
  }

  public static void main(String[] args) throws Exception {
    String text = Files.readString(Path.of("src/main/java/MeetHouse.java"));
    words(withoutComments(text));
    lengths(text);
    for (int i = 0; i < text.length(); i++) if (text.charAt(i) > 126) Due.is("a character at " + i, text.charAt(i), 0);
    Due.end();
  }
}
