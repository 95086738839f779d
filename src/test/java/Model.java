import java.math.BigInteger;
import java.util.ArrayDeque;
import java.util.ArrayList;
import java.util.Arrays;
import java.util.Deque;
import java.util.HashMap;
import java.util.HashSet;
import java.util.List;
import java.util.Map;
import java.util.Set;
import java.util.TreeSet;
import java.util.regex.Matcher;
import java.util.regex.Pattern;

/**
 * The document said once more, by other means than the class: every definition is followed literally, by trying
 * all cases where it speaks of all, and with no thought for speed.
 */
final class Model {
  static final int UNKNOWN = -1, BAD = -2, LATE = -3, FULL = -4, NONE = -9;

  static final class Guard {
    int tired, stamps, owes, twin = NONE, inBed;
    boolean nods, sick;

    Guard copy() {
      Guard g = new Guard();
      g.tired = tired;
      g.stamps = stamps;
      g.owes = owes;
      g.twin = twin;
      g.inBed = inBed;
      g.nods = nods;
      g.sick = sick;
      return g;
    }
  }

  static final class Fort {
    int beds = 0, limit = 1, quarters = 0, blind = 0;
    List<Guard> guards = new ArrayList<>();

    Fort copy() {
      Fort f = new Fort();
      f.beds = beds;
      f.limit = limit;
      f.quarters = quarters;
      f.blind = blind;
      for (Guard g : guards) f.guards.add(g.copy());
      return f;
    }

    int all() {
      return (1 << guards.size()) - 1;
    }

    int tiredOfAll() {
      return guards.stream().mapToInt(g -> g.tired).sum();
    }

    boolean allNod() {
      return guards.stream().allMatch(g -> g.nods);
    }

    /** The fort behind a quarter; null, if it may not be. */
    Fort behind(int set) {
      if (Integer.bitCount(set) > beds) return null;
      Fort f = copy();
      for (int i = 0; i < guards.size(); i++) {
        if ((set >> i & 1) == 0) continue;
        Guard before = guards.get(i), g = f.guards.get(i);
        if (before.sick) {
          g.owes++;
          if (g.owes > 9) return null;
        } else if (gives(i, set)) {
          g.stamps--;
          if (g.stamps < 0) return null;
        }
        g.tired = before.tired < 4 ? 0 : before.tired - 4;
        g.nods = false;
        g.inBed++;
      }
      for (int i = 0; i < guards.size(); i++) {
        if ((set >> i & 1) != 0) continue;
        Guard g = f.guards.get(i);
        if (g.nods) {
          if (g.tired > 0) g.tired--;
          g.nods = limit - g.tired < 4;
        } else {
          g.tired += 2;
          if (g.tired > 99) g.tired = 99;
          g.nods = g.tired >= limit;
        }
      }
      f.quarters++;
      if (f.awake(set) == 0) f.blind++;
      return f;
    }

    private boolean gives(int i, int set) {
      Guard g = guards.get(i);
      if (g.twin == NONE || (set >> g.twin & 1) == 0 || guards.get(g.twin).sick) return true;
      int his = guards.get(g.twin).stamps;
      return g.stamps > his || g.stamps == his && i < g.twin;
    }

    int awake(int set) {
      int bits = 0;
      for (int i = 0; i < guards.size(); i++) if ((set >> i & 1) == 0 && !guards.get(i).nods) bits |= 1 << i;
      return bits;
    }
  }

  private static final Pattern SHAPE = Pattern.compile("F[0-5](0[1-9]|[1-9][0-9])(G[0-9]{4}|T[0-9]{2})*");
  private static final Pattern PART = Pattern.compile("G[0-9]{4}|T[0-9]{2}");
  private static final String SIGNS = "FGT0123456789";
  private static final Map<String, Boolean> OPEN = new HashMap<>();

  /** The fortress of a whole text; null, if it is none. */
  static Fort parse(String text) {
    if (!SHAPE.matcher(text).matches()) return null;
    Fort f = new Fort();
    f.beds = text.charAt(1) - '0';
    f.limit = Integer.parseInt(text.substring(2, 4));
    Matcher m = PART.matcher(text.substring(4));
    while (m.find()) {
      String part = m.group();
      if (part.charAt(0) == 'G') {
        Guard g = new Guard();
        g.tired = Integer.parseInt(part.substring(1, 3));
        g.stamps = part.charAt(3) - '0';
        g.owes = part.charAt(4) - '0';
        f.guards.add(g);
        if (f.guards.size() > 5) return null;
      } else {
        int i = part.charAt(1) - '0', j = part.charAt(2) - '0';
        if (i == j || Math.max(i, j) >= f.guards.size()) return null;
        if (f.guards.get(i).twin != NONE || f.guards.get(j).twin != NONE) return null;
        f.guards.get(i).twin = j;
        f.guards.get(j).twin = i;
      }
    }
    return f;
  }

  /** Whether some text behind this one makes it a fortress: four bytes are enough, if any are. */
  private static boolean open(String text, int more) {
    Matcher m = SHAPE.matcher(text);
    if (!m.matches() && !m.hitEnd()) return false;
    if (parse(text) != null) return true;
    if (more == 0) return false;
    for (int i = 0; i < SIGNS.length(); i++) if (open(text + SIGNS.charAt(i), more - 1)) return true;
    return false;
  }

  static int faultOf(String text) {
    for (int n = 1; n <= text.length(); n++) {
      if (!OPEN.computeIfAbsent(text.substring(0, n), t -> open(t, 4))) return n - 1;
    }
    return parse(text) == null ? text.length() : NONE;
  }

  private String text = "";
  private Fort fort = new Fort();
  private int[] plan = new int[4];
  private final Deque<Fort> acts = new ArrayDeque<>();
  private final List<int[]> book = new ArrayList<>();
  private final Fort[] keptForts = new Fort[2];
  private final int[][] keptPlans = new int[2][];

  private boolean known(int guard) {
    return guard >= 0 && guard < fort.guards.size();
  }

  private boolean bits(int set) {
    return set >= 0 && set <= fort.all();
  }

  int write(int n, long v) {
    if (n < 1 || n > 8) return BAD;
    if (text.length() + n > 48) return FULL;
    byte[] b = BigInteger.valueOf(v).toByteArray();
    byte[] eight = new byte[8];
    Arrays.fill(eight, (byte) (v < 0 ? -1 : 0));
    System.arraycopy(b, 0, eight, 8 - b.length, b.length);
    for (int i = 8 - n; i < 8; i++) text += (char) (eight[i] & 255);
    return text.length();
  }

  int wipe() {
    int was = text.length();
    text = "";
    return was;
  }

  int fault() {
    return faultOf(text);
  }

  int fortress() {
    Fort f = parse(text);
    if (f == null) return LATE;
    fort = f;
    acts.clear();
    plan = new int[4];
    Arrays.fill(keptForts, null);
    return f.guards.size();
  }

  int about(int what) {
    int nods = 0, sick = 0;
    for (int i = 0; i < fort.guards.size(); i++) {
      if (fort.guards.get(i).nods) nods += 1 << i;
      if (fort.guards.get(i).sick) sick += 1 << i;
    }
    int[] all = {fort.guards.size(), fort.beds, fort.limit, fort.quarters, fort.blind, nods, sick, fort.tiredOfAll(), acts.size(),
        book.size(), text.length()};
    return what < 0 || what >= all.length ? BAD : all[what];
  }

  int guard(int guard, int what) {
    if (!known(guard)) return UNKNOWN;
    Guard g = fort.guards.get(guard);
    int[] all = {g.tired, g.stamps, g.owes, g.nods ? 1 : 0, g.sick ? 1 : 0, g.twin, g.inBed};
    return what < 0 || what >= all.length ? BAD : all[what];
  }

  int sick(int guard, boolean is) {
    if (!known(guard)) return UNKNOWN;
    boolean was = fort.guards.get(guard).sick;
    fort.guards.get(guard).sick = is;
    return was != is ? 1 : 0;
  }

  int hand(int guard, int other, int n) {
    if (!known(guard) || !known(other)) return UNKNOWN;
    if (guard == other || n < 1 || n > 9) return BAD;
    Guard a = fort.guards.get(guard), b = fort.guards.get(other);
    if (a.stamps < n) return LATE;
    if (b.stamps + n > 9) return FULL;
    a.stamps -= n;
    return b.stamps += n;
  }

  int pay(int guard, int n) {
    if (!known(guard)) return UNKNOWN;
    if (n < 1 || n > 9) return BAD;
    Guard g = fort.guards.get(guard);
    if (g.stamps < n || g.owes < n) return LATE;
    g.stamps -= n;
    return g.owes -= n;
  }

  int may(int beds) {
    if (!bits(beds)) return BAD;
    return fort.behind(beds) != null ? 1 : 0;
  }

  private void act(Fort next) {
    if (acts.size() == 12) acts.removeFirst();
    acts.addLast(fort);
    fort = next;
  }

  int quarter(int beds) {
    if (!bits(beds)) return BAD;
    Fort next = fort.behind(beds);
    if (next == null) return LATE;
    act(next);
    return next.awake(beds);
  }

  int drum() {
    int woken = 0;
    Fort next = fort.copy();
    for (Guard g : next.guards) {
      if (!g.nods) continue;
      woken++;
      g.nods = false;
      g.tired = Math.min(99, g.tired + 3);
    }
    act(next);
    return woken;
  }

  int undo() {
    if (acts.isEmpty()) return LATE;
    Fort back = acts.removeLast().copy();
    for (int i = 0; i < back.guards.size(); i++) back.guards.get(i).sick = fort.guards.get(i).sick;
    fort = back;
    return acts.size();
  }

  /** All rotas, none left out: the least sum and the sets, of like ones the first. */
  private static void rotas(Fort f, int[] sets, int depth, int[][] best) {
    if (depth == sets.length) {
      if (best[0] == null || f.tiredOfAll() < best[1][0]) {
        best[0] = sets.clone();
        best[1] = new int[] {f.tiredOfAll()};
      }
      return;
    }
    for (int set = 0; set <= f.all(); set++) {
      Fort next = f.behind(set);
      if (next == null || next.blind > f.blind) continue;
      sets[depth] = set;
      rotas(next, sets, depth + 1, best);
    }
  }

  /** The sum, then the sets; null: there is none. */
  int[] bestRota(int n) {
    int[][] best = new int[2][];
    rotas(fort, new int[n], 0, best);
    if (best[0] == null) return null;
    int[] row = new int[n + 1];
    row[0] = best[1][0];
    System.arraycopy(best[0], 0, row, 1, n);
    return row;
  }

  int rota(int n) {
    if (n < 1 || n > 4) return BAD;
    if (fort.guards.size() > 4) return LATE;
    int[] best = bestRota(n);
    return best == null ? NONE : best[0];
  }

  int rotaAt(int n, int i) {
    if (n < 1 || n > 4) return BAD;
    if (fort.guards.size() > 4) return LATE;
    int[] best = bestRota(n);
    return best == null || i < 0 || i >= n ? NONE : best[i + 1];
  }

  int allNod() {
    Fort f = fort;
    for (int q = 0; q < 100; q++) {
      if (f.allNod()) return q;
      f = f.behind(0);
    }
    return NONE;
  }

  /** Of 10 to the (quarters by guards) ways those by which all nod, by every set that may nod in each quarter. */
  private BigInteger ways(int nods, int q, int n, int x) {
    int size = fort.guards.size();
    if (q > n) return nods == fort.all() ? BigInteger.ONE : BigInteger.ZERO;
    BigInteger sum = BigInteger.ZERO;
    for (int then = 0; then <= fort.all(); then++) {
      if ((then & nods) != nods) continue;
      long weight = 1;
      for (int i = 0; i < size; i++) {
        int tired = fort.guards.get(i).tired + 2 * q;
        int tenths = (nods >> i & 1) != 0 || tired >= fort.limit ? 10 : 2 * tired >= fort.limit ? x : 0;
        weight *= (then >> i & 1) != 0 ? tenths : 10 - tenths;
      }
      if (weight != 0) sum = sum.add(ways(then, q + 1, n, x).multiply(BigInteger.valueOf(weight)));
    }
    return sum;
  }

  long chance(int n, int x, boolean upper) {
    if (n < 1 || n > 3 || x < 0 || x > 10) return BAD;
    BigInteger above = ways(about(5), 1, n, x);
    BigInteger below = BigInteger.TEN.pow(n * fort.guards.size());
    BigInteger d = above.gcd(below);
    return (upper ? above : below).divide(d).longValueExact();
  }

  int plan(int i, int beds) {
    if (i < 0 || i > 3 || !bits(beds)) return BAD;
    int was = plan[i];
    plan[i] = beds;
    return was;
  }

  int weakest() {
    List<Integer> awake = new ArrayList<>();
    Fort f = fort;
    for (int q = 0; q < 8; q++) {
      int set = plan[q % 4];
      Fort next = f.behind(set);
      if (next == null) {
        set = 0;
        next = f.behind(0);
      }
      f = next;
      awake.add(Integer.bitCount(f.awake(set)));
    }
    return awake.indexOf(awake.stream().min(Integer::compare).get());
  }

  int settled(boolean who) {
    Fort f = fort.copy();
    int given = 0, owing = 0;
    // One stamp at a time: first each its own, then each its twin's.
    for (Guard g : f.guards) {
      for (; g.stamps > 0 && g.owes > 0; given++) {
        g.stamps--;
        g.owes--;
      }
    }
    for (int i = 0; i < f.guards.size(); i++) {
      Guard g = f.guards.get(i);
      if (g.twin != NONE) {
        for (Guard twin = f.guards.get(g.twin); twin.stamps > 0 && g.owes > 0; given++) {
          twin.stamps--;
          g.owes--;
        }
      }
      if (g.owes > 0) owing |= 1 << i;
    }
    return who ? owing : given;
  }

  int use(int number, int guard, int quarter) {
    if (!known(guard)) return UNKNOWN;
    if (number < 0 || number > 99 || quarter < 0 || quarter > 99) return BAD;
    if (book.size() == 12) return FULL;
    book.add(new int[] {number, guard, quarter});
    return book.size();
  }

  int burn() {
    int had = book.size();
    book.clear();
    return had;
  }

  private List<Integer> allForged() {
    Set<Integer> numbers = new TreeSet<>();
    for (int[] u : book) numbers.add(u[0]);
    List<Integer> out = new ArrayList<>();
    for (int number : numbers) {
      Set<Integer> hours = new HashSet<>(), users = new HashSet<>();
      int uses = 0;
      for (int[] u : book) {
        if (u[0] != number) continue;
        uses++;
        users.add(u[1]);
        hours.add(u[2]);
      }
      boolean twice = users.size() < uses;
      boolean strangers = false;
      for (int a : users) for (int b : users) if (a != b && !(known(a) && fort.guards.get(a).twin == b)) strangers = true;
      if (hours.size() > 1 || twice || strangers) out.add(number);
    }
    return out;
  }

  int forged() {
    return allForged().size();
  }

  int forgedAt(int i) {
    return i < 0 || i >= allForged().size() ? NONE : allForged().get(i);
  }

  int forgers() {
    int bits = 0;
    for (int[] u : book) if (known(u[1]) && allForged().contains(u[0])) bits |= 1 << u[1];
    return bits;
  }

  int keep(int slot) {
    if (slot < 0 || slot > 1) return UNKNOWN;
    keptForts[slot] = fort.copy();
    keptPlans[slot] = plan.clone();
    return fort.quarters;
  }

  int again(int slot) {
    if (slot < 0 || slot > 1) return UNKNOWN;
    if (keptForts[slot] == null) return LATE;
    fort = keptForts[slot].copy();
    plan = keptPlans[slot].clone();
    acts.clear();
    return fort.quarters;
  }
}
