import java.lang.reflect.Field;
import java.lang.reflect.Method;
import java.lang.reflect.Modifier;
import java.nio.file.Files;
import java.nio.file.Path;
import java.util.regex.Matcher;
import java.util.regex.Pattern;

/** README.md tells every call and constant of the face, every test, and each answer in its examples is the one that a new object gives. */
public final class ReadmeTest {
  private static final Pattern TOLD = Pattern.compile("for \\(char c : \"([^\"]*)\"\\.toCharArray\\(\\)\\) x\\.write\\(1, c\\);");
  private static final Pattern CALL = Pattern.compile("x\\.(\\w+)\\(([^)]*)\\);\\s*// (-?\\d+)(?!\\d).*");
  private static final Due due = new Due("ReadmeTest");

  public static void main(String[] args) throws Exception {
    String page = Files.readString(Path.of(System.getProperty("readme", "README.md")));
    face(page);
    tests(page);
    Matcher block = Pattern.compile("(?s)```java\n(.*?)```").matcher(page);
    int asked = 0;
    while (block.find()) asked += play(block.group(1).split("\n"));
    due.is("answers told in the examples, " + asked, asked >= 20 ? 1 : 0, 1);
    due.end();
  }

  private static void face(String page) {
    for (Method m : SleepByRation.class.getDeclaredMethods()) {
      if (Modifier.isPublic(m.getModifiers())) due.is("README tells " + m.getName(), page.contains("`" + m.getName() + "(") ? 1 : 0, 1);
    }
    for (Field f : SleepByRation.class.getDeclaredFields()) {
      if (Modifier.isPublic(f.getModifiers())) due.is("README tells " + f.getName(), page.contains("`" + f.getName() + "`") ? 1 : 0, 1);
    }
  }

  private static void tests(String page) throws Exception {
    due.is("README tells how to run the tests", page.contains("`.ci/run`") ? 1 : 0, 1);
    try (var files = Files.newDirectoryStream(Path.of("src/test/java"), "*Test.java")) {
      for (Path file : files) {
        String name = file.getFileName().toString().replace(".java", "");
        due.is("README tells " + name, page.contains("`" + name + "`") ? 1 : 0, 1);
      }
    }
  }

  /** A block is played line by line on one object; a line that this test can't read is wrong, so that none goes unasked. */
  private static int play(String[] lines) throws Exception {
    SleepByRation x = null;
    int asked = 0;
    for (String line : lines) {
      Matcher told = TOLD.matcher(line), call = CALL.matcher(line);
      if (line.equals("SleepByRation x = new SleepByRation();")) x = new SleepByRation();
      else if (x != null && told.matches()) Due.put(x, told.group(1));
      else if (x != null && call.matches()) {
        due.is("README: " + line, answer(x, call.group(1), call.group(2)), Long.parseLong(call.group(3)));
        asked++;
      } else if (!line.isBlank()) due.is("README: a line that can't be played: " + line, 0, 1);
    }
    return asked;
  }

  private static long answer(SleepByRation x, String name, String told) throws Exception {
    String[] words = told.isBlank() ? new String[0] : told.split(",\\s*");
    for (Method m : SleepByRation.class.getMethods()) {
      if (!m.getName().equals(name) || m.getParameterCount() != words.length) continue;
      Object[] values = new Object[words.length];
      for (int i = 0; i < words.length; i++) values[i] = value(m.getParameterTypes()[i], words[i]);
      return ((Number) m.invoke(x, values)).longValue();
    }
    throw new IllegalArgumentException("README: there is no call " + name + "(" + told + ")");
  }

  private static Object value(Class<?> type, String word) {
    if (type == boolean.class) return Boolean.parseBoolean(word);
    long v = Long.decode(word.replace("L", ""));
    return type == long.class ? (Object) v : (Object) (int) v;
  }
}
