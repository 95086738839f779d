import java.nio.file.Files;
import java.nio.file.Path;
import java.util.regex.Matcher;
import java.util.regex.Pattern;

/** What of the language's rules can be seen in the words of the file (its path is the property source). */
public final class LanguageTest {
  private static final String[] NEVER = {"throw", "throws", "try", "catch", "finally", "synchronized", "assert", "package", "native", "volatile",
      "protected", "Exception", "Object", "System\\.(?!arraycopy)\\w+", "Arrays\\.(?!fill|copyOf|copyOfRange)\\w+", "\\w+Exact", "->", "::",
      "equals|hashCode|toString", "new\\s+\\w+\\s*\\([^;{]*\\)\\s*\\{", "import (?!java\\.util\\.(Arrays|ArrayList|List);)"};

  public static void main(String[] args) throws Exception {
    Due due = new Due("LanguageTest");
    String source = Files.readString(Path.of(System.getProperty("source", "src/main/java/SleepByRation.java")));
    for (int i = 0; i < source.length(); i++) if (source.charAt(i) > 126) due.is("sign at " + i, source.charAt(i), 0);
    String code = source.replaceAll("(?s)/\\*.*?\\*/", " ").replaceAll("//[^\n]*", " ").replaceAll("'.'", "' '");
    for (String never : NEVER) {
      String whole = Character.isLetter(never.charAt(0)) ? "\\b(" + never + ")\\b" : never;
      Matcher m = Pattern.compile(whole).matcher(code);
      due.is("never: " + never, m.find() ? 1 : 0, 0);
    }
    lengths(due, source);
    due.end();
  }

  /** A method of some sixty lines at most: from a head to the bracket below it that stands as far in. */
  private static void lengths(Due due, String source) {
    String[] lines = source.split("\n");
    for (int i = 0; i < lines.length; i++) {
      Matcher head = Pattern.compile("^( +)(public|private)[^=;]*\\) \\{$").matcher(lines[i]);
      if (!head.matches()) continue;
      int end = i;
      while (end < lines.length && !lines[end].equals(head.group(1) + "}")) end++;
      due.is("a method of 60 lines at most: " + lines[i].trim(), end - i < 60 ? 1 : 0, 1);
    }
  }
}
