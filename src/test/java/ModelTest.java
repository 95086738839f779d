import java.util.Random;

/** All promises: long rows of calls, drawn by a fixed seed, on the class and on the model beside one another. */
public final class ModelTest {
  private static final Due due = new Due("ModelTest");
  private static final int RUNS = 2000;
  // An object is used for at most 512 calls; the longest step takes some 60.
  private static final int LAST_STEP_AT = 450;

  public static void main(String[] args) {
    for (int run = 0; run < RUNS; run++) new ModelTest(run).play();
    rotasBySearch();
    due.end();
  }

  private final Random random;
  private final int run;
  private int calls = 0;
  private final SleepByRation x = new SleepByRation();
  private final Model m = new Model();

  private ModelTest(int run) {
    this.run = run;
    random = new Random(run);
  }

  private void same(String call, long got, long want) {
    calls++;
    due.is("run " + run + ": " + call, got, want);
  }

  private int below(int n) {
    return random.nextInt(n);
  }

  /** Mostly inside 0 .. n - 1, at times just outside, seldom far outside. */
  private int near(int n) {
    int kind = below(40);
    if (kind == 0) return random.nextInt();
    if (kind < 4) return below(n + 4) - 2;
    return below(n);
  }

  private int someGuard() {
    return near(Math.max(1, m.about(0)));
  }

  private int someSet() {
    int all = 1 << m.about(0);
    int set = near(all);
    return set >= 0 && below(3) == 0 ? set & below(all) : set;
  }

  private static String two(int n) {
    return "" + n / 10 + n % 10;
  }

  static String fortress(Random r, int most) {
    StringBuilder b = new StringBuilder("F");
    b.append(r.nextInt(6));
    int limit = r.nextBoolean() ? 1 + r.nextInt(20) : 1 + r.nextInt(99);
    b.append(two(limit));
    int guards = r.nextInt(most + 1);
    int tired = r.nextInt(4) == 0 ? 100 : Math.min(100, limit + 3);
    int stamps = 1 + r.nextInt(10);
    String free = "";
    for (int g = 0; g < guards; g++) {
      b.append('G').append(two(r.nextInt(tired))).append(r.nextInt(stamps)).append(r.nextInt(10));
      free += g;
      if (free.length() >= 2 && r.nextInt(3) == 0) {
        char i = free.charAt(r.nextInt(free.length()));
        free = free.replace("" + i, "");
        char j = free.charAt(r.nextInt(free.length()));
        free = free.replace("" + j, "");
        b.append('T').append(i).append(j);
      }
    }
    return b.toString();
  }

  private void tell(String text) {
    for (int at = 0; at < text.length();) {
      int n = Math.min(text.length() - at, 1 + below(8));
      long v = random.nextLong();
      for (int i = 0; i < n; i++) v = v << 8 | text.charAt(at + i) & 255;
      same("write(" + n + ", " + v + ")", x.write(n, v), m.write(n, v));
      at += n;
    }
  }

  private String spoilt(String text) {
    if (below(3) != 0) return text;
    StringBuilder b = new StringBuilder(text);
    for (int k = 0; k <= below(2); k++) {
      int at = below(b.length() + 1);
      char c = below(4) == 0 ? (char) below(256) : "FGT0123456789/:".charAt(below(15));
      if (below(3) == 0 && at < b.length()) b.deleteCharAt(at);
      else if (below(2) == 0 || at == b.length()) b.insert(at, c);
      else b.setCharAt(at, c);
    }
    return b.toString();
  }

  private void anew() {
    same("wipe()", x.wipe(), m.wipe());
    tell(spoilt(fortress(random, 5)));
    same("fault()", x.fault(), m.fault());
    same("fortress()", x.fortress(), m.fortress());
  }

  private void play() {
    if (below(10) != 0) anew();
    while (calls <= LAST_STEP_AT) {
      int kind = below(100);
      if (kind < 2) anew();
      else if (kind < 45) act();
      else if (kind < 60) ask();
      else if (kind < 75) bookAndSlots();
      else rotas();
    }
  }

  private void act() {
    int g = someGuard(), o = someGuard(), n = below(8) == 0 ? near(12) : 1 + below(3), s = someSet();
    boolean is = below(3) == 0;
    switch (below(14)) {
      case 0, 1 -> same("sick(" + g + ", " + is + ")", x.sick(g, is), m.sick(g, is));
      case 2 -> same("hand(" + g + ", " + o + ", " + n + ")", x.hand(g, o, n), m.hand(g, o, n));
      case 3 -> same("pay(" + g + ", " + n + ")", x.pay(g, n), m.pay(g, n));
      case 4 -> same("drum()", x.drum(), m.drum());
      case 5, 6 -> same("undo()", x.undo(), m.undo());
      case 7, 8 -> same("quarter(0)", x.quarter(0), m.quarter(0));
      default -> same("quarter(" + s + ")", x.quarter(s), m.quarter(s));
    }
  }

  private void ask() {
    int g = someGuard(), w = near(11), v = near(7), s = someSet();
    same("about(" + w + ")", x.about(w), m.about(w));
    same("guard(" + g + ", " + v + ")", x.guard(g, v), m.guard(g, v));
    same("may(" + s + ")", x.may(s), m.may(s));
    if (below(4) == 0) {
      for (int a = 0; a <= 10; a++) same("about(" + a + ")", x.about(a), m.about(a));
      for (int h = 0; h < 5; h++) for (int a = 0; a < 7; a++) same("guard(" + h + ", " + a + ")", x.guard(h, a), m.guard(h, a));
    }
  }

  private void bookAndSlots() {
    int number = below(10) == 0 ? near(100) : below(5), g = someGuard(), q = below(10) == 0 ? near(100) : below(2), i = near(5), s = near(2);
    switch (below(10)) {
      case 0 -> same("keep(" + s + ")", x.keep(s), m.keep(s));
      case 1 -> same("again(" + s + ")", x.again(s), m.again(s));
      case 2 -> {
        if (below(3) == 0) same("burn()", x.burn(), m.burn());
      }
      case 3 -> same("forged()", x.forged(), m.forged());
      case 4 -> same("forgedAt(" + i + ")", x.forgedAt(i), m.forgedAt(i));
      case 5 -> same("forgers()", x.forgers(), m.forgers());
      default -> same("use(" + number + ", " + g + ", " + q + ")", x.use(number, g, q), m.use(number, g, q));
    }
  }

  private void rotas() {
    int n = 1 + near(3), y = near(11), i = near(4), s = someSet();
    switch (below(8)) {
      case 0 -> same("allNod()", x.allNod(), m.allNod());
      case 1 -> {
        same("chance(" + n + ", " + y + ", true)", x.chance(n, y, true), m.chance(n, y, true));
        same("chance(" + n + ", " + y + ", false)", x.chance(n, y, false), m.chance(n, y, false));
      }
      case 2, 3 -> same("plan(" + i + ", " + s + ")", x.plan(i, s), m.plan(i, s));
      case 4 -> same("weakest()", x.weakest(), m.weakest());
      case 5 -> same("settled(false)", x.settled(false), m.settled(false));
      case 6 -> same("settled(true)", x.settled(true), m.settled(true));
      default -> shortRota(n == 3 ? 2 : n, i);
    }
  }

  private void shortRota(int n, int i) {
    same("rota(" + n + ")", x.rota(n), m.rota(n));
    same("rotaAt(" + n + ", " + i + ")", x.rotaAt(n, i), m.rotaAt(n, i));
  }

  /** The model tries all rotas, so the long ones are asked apart, and fewer of them. */
  private static void rotasBySearch() {
    Random r = new Random(77);
    for (int k = 0; k < 150; k++) {
      String text = fortress(r, 4);
      SleepByRation x = Due.fort(text);
      Model m = new Model();
      for (char c : text.toCharArray()) m.write(1, c);
      m.fortress();
      for (int q = r.nextInt(6); q > 0; q--) {
        int g = r.nextInt(4), s = r.nextInt(16);
        boolean is = r.nextBoolean();
        x.sick(g, is);
        m.sick(g, is);
        x.quarter(s);
        m.quarter(s);
      }
      for (int n = 3; n <= 4; n++) {
        int[] best = m.bestRota(n);
        due.is(text + " rota(" + n + ")", x.rota(n), best == null ? -9 : best[0]);
        for (int i = 0; i < n; i++) due.is(text + " rotaAt(" + n + ", " + i + ")", x.rotaAt(n, i), best == null ? -9 : best[i + 1]);
      }
    }
  }
}
