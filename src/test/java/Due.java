/** Counts and prints the answers that are not the ones that are due. */
final class Due {
  private final String name;
  private int asked = 0;
  private int wrong = 0;

  Due(String name) {
    this.name = name;
  }

  void is(String call, long got, long want) {
    asked++;
    if (got != want) {
      wrong++;
      System.out.println(name + ": " + call + " answered " + got + ", due is " + want);
    }
  }

  /** A run of answers, for rows that belong together. */
  void are(String calls, long[] got, long... want) {
    is(calls + ", how many", got.length, want.length);
    for (int i = 0; i < Math.min(got.length, want.length); i++) is(calls + " [" + i + "]", got[i], want[i]);
  }

  void end() {
    System.out.println(name + ": " + asked + " answers, " + wrong + " wrong");
    if (wrong != 0 || asked == 0) System.exit(1);
  }

  /** Writes a text behind what is there, byte by byte (signs 0 to 255). */
  static void put(SleepByRation x, String text) {
    for (int i = 0; i < text.length(); i++) x.write(1, text.charAt(i));
  }

  /** What fault() says of just this text. */
  static int faultOf(String text) {
    SleepByRation x = new SleepByRation();
    put(x, text);
    return x.fault();
  }

  static SleepByRation fort(String text) {
    SleepByRation x = new SleepByRation();
    put(x, text);
    if (x.fortress() < 0) throw new IllegalStateException("no fortress: " + text);
    return x;
  }

  /** All that the calls that only ask can tell of an object. */
  static long[] look(SleepByRation x) {
    long[] all = new long[128];
    int n = 0;
    for (int w = 0; w <= 10; w++) all[n++] = x.about(w);
    for (int g = 0; g < 5; g++) for (int w = 0; w <= 6; w++) all[n++] = x.guard(g, w);
    all[n++] = x.fault();
    for (int s = 0; s < 32; s++) all[n++] = x.may(s);
    for (int r = 1; r <= 4; r++) {
      all[n++] = x.rota(r);
      for (int i = 0; i < r; i++) all[n++] = x.rotaAt(r, i);
    }
    all[n++] = x.allNod();
    all[n++] = x.chance(2, 3, true);
    all[n++] = x.chance(2, 3, false);
    all[n++] = x.weakest();
    all[n++] = x.settled(true);
    all[n++] = x.settled(false);
    all[n++] = x.forged();
    for (int i = 0; i < 4; i++) all[n++] = x.forgedAt(i);
    all[n++] = x.forgers();
    return java.util.Arrays.copyOf(all, n);
  }

  /** Runs a call that must be refused, and looks whether anything is otherwise behind it. */
  void refused(String call, SleepByRation x, java.util.function.LongSupplier run, long want) {
    long[] before = look(x);
    is(call, run.getAsLong(), want);
    are(call + " changes nothing", look(x), before);
  }
}
