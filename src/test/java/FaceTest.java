import java.lang.reflect.Constructor;
import java.lang.reflect.Field;
import java.lang.reflect.Method;
import java.lang.reflect.Modifier;
import java.util.Arrays;
import java.util.Set;
import java.util.TreeSet;

/** The public face: every constant, constructor and method of the document, and no other visible member. */
public final class FaceTest {
  private static final String[] METHODS = {"int write(int, long)", "int wipe()", "int fault()", "int fortress()", "int about(int)",
      "int guard(int, int)", "int sick(int, boolean)", "int hand(int, int, int)", "int pay(int, int)", "int may(int)", "int quarter(int)",
      "int drum()", "int undo()", "int rota(int)", "int rotaAt(int, int)", "int allNod()", "long chance(int, int, boolean)",
      "int plan(int, int)", "int weakest()", "int settled(boolean)", "int use(int, int, int)", "int burn()", "int forged()",
      "int forgedAt(int)", "int forgers()", "int keep(int)", "int again(int)"};

  public static void main(String[] args) {
    Due due = new Due("FaceTest");
    Class<?> c = SleepByRation.class;
    due.is("public and final", c.getModifiers() & (Modifier.PUBLIC | Modifier.FINAL), Modifier.PUBLIC | Modifier.FINAL);
    due.is("no class above it", c.getSuperclass() == Object.class && c.getInterfaces().length == 0 ? 1 : 0, 1);
    Constructor<?>[] made = c.getDeclaredConstructors();
    due.is("constructors", made.length, 1);
    due.is("its parameters", made[0].getParameterCount(), 0);
    due.is("is public", made[0].getModifiers(), Modifier.PUBLIC);
    methods(due, c);
    constants(due, c);
    inside(due, c);
    due.end();
  }

  private static String told(Method m) {
    String types = Arrays.toString(Arrays.stream(m.getParameterTypes()).map(Class::getName).toArray());
    return m.getReturnType().getName() + " " + m.getName() + "(" + types.substring(1, types.length() - 1) + ")";
  }

  private static void methods(Due due, Class<?> c) {
    Set<String> want = new TreeSet<>(Arrays.asList(METHODS)), got = new TreeSet<>();
    Set<String> names = new TreeSet<>();
    for (Method m : c.getDeclaredMethods()) {
      if (Modifier.isPrivate(m.getModifiers())) continue;
      got.add(told(m));
      names.add(m.getName());
      due.is(m.getName() + " is just public", m.getModifiers(), Modifier.PUBLIC);
    }
    due.is("the methods " + got, got.equals(want) ? 1 : 0, 1);
    for (Class<?> k : c.getDeclaredClasses()) for (Method m : k.getDeclaredMethods()) due.is("a name of the face, " + m, names.contains(m.getName()) ? 1 : 0, 0);
    for (Method m : c.getDeclaredMethods()) {
      if (Modifier.isPrivate(m.getModifiers())) due.is("a name of the face, " + m, names.contains(m.getName()) ? 1 : 0, 0);
    }
  }

  private static void constants(Due due, Class<?> c) {
    Set<String> got = new TreeSet<>();
    for (Field f : c.getDeclaredFields()) {
      due.is(f.getName() + " is final", f.getModifiers() & Modifier.FINAL, Modifier.FINAL);
      if (Modifier.isPrivate(f.getModifiers())) continue;
      got.add(f.getType() + " " + f.getName());
      due.is(f.getName(), f.getModifiers(), Modifier.PUBLIC | Modifier.STATIC | Modifier.FINAL);
    }
    due.is("the constants " + got, got.equals(Set.of("int UNKNOWN", "int BAD", "int LATE", "int FULL", "int NONE")) ? 1 : 0, 1);
    due.are("their values", new long[] {SleepByRation.UNKNOWN, SleepByRation.BAD, SleepByRation.LATE, SleepByRation.FULL, SleepByRation.NONE},
        -1, -2, -3, -4, -9);
  }

  private static void inside(Due due, Class<?> c) {
    due.is("some twelve classes at most", c.getDeclaredClasses().length < 12 ? 1 : 0, 1);
    for (Class<?> k : c.getDeclaredClasses()) {
      due.is(k.getName() + " is static", Modifier.isStatic(k.getModifiers()) ? 1 : 0, 1);
      for (Field f : k.getDeclaredFields()) due.is(f + " is no static state", Modifier.isStatic(f.getModifiers()) && !Modifier.isFinal(f.getModifiers()) ? 1 : 0, 0);
    }
  }
}
