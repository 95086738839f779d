import java.nio.file.Files;
import java.nio.file.Path;
import java.util.Map;
import java.util.TreeMap;
import java.util.regex.Matcher;
import java.util.regex.Pattern;

/** Looks whether the tests' sentences stand in the document, and whether one that names a boundary case is left over. */
final class Sentences {
  private static final Pattern BOUNDARY = Pattern.compile("\\d|\\b(UNKNOWN|BAD|LATE|FULL|NONE|none|nobody|Nobody|no|No|most|least|more|less"
      + "|first|last|empty|full|again|anew|gone|stays|refused|forgotten|twice|longer|only|many|may not|left|like ones|lacks|as they were)\\b");

  private Sentences() {
  }

  static void check(Due due) throws Exception {
    Map<String, String> document = sections();
    for (Due.Sentence s : due.sentences()) {
      String text = document.getOrDefault(s.section, "");
      // What is found is blanked, so that the same words can't stand for two places.
      int at = text.indexOf(s.words);
      document.put(s.section, at < 0 ? text : text.substring(0, at) + " # " + text.substring(at + s.words.length()));
      if (at < 0 || s.answers == 0) {
        due.is("asked by a test and told in the document once more: " + s.section + ", \"" + s.words + "\"", 0, 1);
      }
    }
    for (Map.Entry<String, String> rest : document.entrySet()) {
      Matcher m = BOUNDARY.matcher(rest.getValue());
      if (m.find()) due.is("\"" + m.group() + "\" has no test in " + rest.getKey() + ": " + rest.getValue(), 0, 1);
    }
  }

  /** The terms and the promises by their names, in one line each and without the marks of the page. */
  private static Map<String, String> sections() throws Exception {
    String page = Files.readString(Path.of(System.getProperty("document", "../shared/DOC.md")));
    Map<String, String> out = new TreeMap<>();
    for (String part : page.split("(?m)^## ")) {
      int end = part.indexOf('\n');
      String title = part.substring(0, end).trim();
      String body = part.substring(end).replaceAll("```\\w*|={3,} \\d", " ").replaceAll("(?m)^Ahead of the calls.*$", " ").replaceAll("\\s+", " ");
      if (title.equals("What it is")) out.put(title, body.substring(Math.max(0, body.indexOf("An object is used"))));
      if (title.equals("Terms")) out.put(title, body);
      // The face of a promise, in ticks, has no sentence in it.
      if (title.startsWith("Promise ")) out.put(title.substring(0, title.indexOf(':')), body.replaceAll("`[^`]*`", " "));
    }
    return out;
  }
}
