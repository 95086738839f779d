/** Promises 15 to 21: rotas, when all nod, chances, the plan, its weakest hour, what is settled. */
public final class RotasTest {
  private static final Due due = new Due("RotasTest");

  public static void main(String[] args) {
    rota();
    rotaOfLikeOnes();
    rotaNever();
    rotaFollows();
    rotaWrong();
    allNod();
    chance();
    chanceWrong();
    plan();
    weakest();
    settled();
    due.end();
  }

  private static long[] rotaOf(SleepByRation x, int n) {
    long[] row = new long[n + 1];
    row[0] = x.rota(n);
    for (int i = 0; i < n; i++) row[i + 1] = x.rotaAt(n, i);
    return row;
  }

  private static void rota() {
    // One bed, one stamp each: the wall needs one awake.
    SleepByRation x = Due.fort("F150G0810G0610");
    long[] before = Due.look(x);
    due.are("rota(1)", rotaOf(x, 1), 12, 1);
    due.are("rota(2)", rotaOf(x, 2), 10, 1, 2);
    due.are("rota(3): no stamps are left for a third", rotaOf(x, 3), 14, 0, 1, 2);
    due.are("rota(4)", rotaOf(x, 4), 18, 0, 0, 1, 2);
    due.are("nothing is otherwise", Due.look(x), before);
    // Only one has stamps; in bed at 0 it loses nothing: best to be tired first.
    SleepByRation y = Due.fort("F150G0090G0000");
    due.are("rota(1)", rotaOf(y, 1), 2, 1);
    due.are("rota(2)", rotaOf(y, 2), 4, 0, 1);
    due.is("rotaAt(2, 1) asked alone", Due.fort("F150G0090G0000").rotaAt(2, 1), 1);
    due.is("rotaAt(1, 0) asked alone", Due.fort("F150G0090G0000").rotaAt(1, 0), 1);
    // All in bed would be least, but the wall would be blind.
    SleepByRation z = Due.fort("F550G1090G1090");
    due.are("never all in bed", rotaOf(z, 1), 18, 1);
    // A sick one sleeps on credit.
    SleepByRation s = Due.fort("F150G1007G1000");
    s.sick(0, true);
    due.are("on credit, twice", rotaOf(s, 3), 20, 0, 1, 1);
    due.is("nothing is owed by asking", s.guard(0, 2), 7);
    // Twins by one stamp.
    SleepByRation t = Due.fort("F250G1010G1000G0000T01");
    due.are("twins by one stamp", rotaOf(t, 1), 14, 3);
  }

  private static void rotaOfLikeOnes() {
    SleepByRation x = Due.fort("F199G2010G2010");
    due.are("the first by sets", rotaOf(x, 1), 38, 1);
    due.are("the first quarter's first", rotaOf(x, 3), 40, 0, 1, 2);
    SleepByRation y = Due.fort("F399G0000G0000G0000G0000");
    due.are("nobody has stamps", rotaOf(y, 4), 32, 0, 0, 0, 0);
  }

  private static void rotaNever() {
    due.is("nobody: the wall is blind", new SleepByRation().rota(1), -9);
    due.is("nobody, rotaAt", new SleepByRation().rotaAt(1, 0), -9);
    SleepByRation x = Due.fort("F105G0300");
    due.is("it nods", x.rota(1), -9);
    due.is("it nods, rotaAt", x.rotaAt(1, 0), -9);
    // Awake for one quarter, and for no second one.
    SleepByRation y = Due.fort("F005G0100G0100");
    due.are("one", rotaOf(y, 1), 6, 0);
    due.are("two", rotaOf(y, 2), -9, -9, -9);
    // 2 and 0 by turns: 0 2, then 2 0.
    SleepByRation z = Due.fort("F105G0220G0020");
    due.are("by turns", rotaOf(z, 2), 2, 1, 2);
  }

  private static void rotaFollows() {
    // What was found is not what is answered when things are otherwise.
    SleepByRation x = Due.fort("F150G1011G1011T01");
    due.are("first", rotaOf(x, 1), 18, 1);
    x.quarter(1);
    due.are("behind a quarter", rotaOf(x, 1), 6 + 12 - 2, 2);
    x.undo();
    due.are("undone", rotaOf(x, 1), 18, 1);
    x.pay(0, 1);
    due.are("paid", rotaOf(x, 1), 18, 2);
    x.hand(1, 0, 1);
    due.are("handed on", rotaOf(x, 1), 18, 1);
    x.keep(0);
    x.pay(1, 1);
    x.hand(0, 1, 1);
    due.are("back", rotaOf(x, 1), 18, 2);
    x.sick(0, true);
    due.are("sick", rotaOf(x, 1), 18, 1);
    x.sick(0, false);
    x.again(0);
    due.are("gone on from", rotaOf(x, 1), 18, 1);
    x.wipe();
    Due.put(x, "F050G1011G1011T01");
    x.fortress();
    due.are("a fortress without beds", rotaOf(x, 1), 24, 0);
    due.are("and two", rotaOf(x, 2), 28, 0, 0);
    // As tired as it was, but it nods now: 17 19 21 20 19 18 17.
    SleepByRation w = Due.fort("F120G1700");
    due.is("awake", w.rota(1), 19);
    for (int q = 0; q < 6; q++) w.quarter(0);
    due.is("it nods, and would wake", w.rota(1), 16);
    // The same guards told anew, with other beds, another LIMIT, and as twins.
    String[] heads = {"F150", "F050", "F150", "F102", "F150", "F250"};
    String[] tails = {"", "", "", "", "T01", "T01"};
    long[] sums = {20, 26, 20, -9, 20, 14};
    SleepByRation z = new SleepByRation();
    for (int i = 0; i < heads.length; i++) {
      z.wipe();
      Due.put(z, heads[i] + "G1010G1000G0000" + tails[i]);
      z.fortress();
      due.is(heads[i] + tails[i] + " rota(1)", z.rota(1), sums[i]);
    }
    SleepByRation y = Due.fort("F103G0100G0000");
    due.is("ahead of a drum", y.quarter(0), 2);
    due.is("nods: none", y.rota(1), -9);
    y.drum();
    due.is("drummed, none: both nod", y.rota(1), -9);
  }

  private static void rotaWrong() {
    SleepByRation x = Due.fort("F150G1010G1010G1010G1010");
    SleepByRation five = Due.fort("F150G1010G1010G1010G1010G1010");
    for (int n : new int[] {0, 5, -1, Integer.MIN_VALUE, Integer.MAX_VALUE}) {
      due.is("rota(" + n + ")", x.rota(n), -2);
      due.is("rotaAt(" + n + ", 0)", x.rotaAt(n, 0), -2);
      due.is("five, rota(" + n + "): BAD is told first", five.rota(n), -2);
      due.is("five, rotaAt(" + n + ", 0): BAD is told first", five.rotaAt(n, 0), -2);
    }
    for (int n = 1; n <= 4; n++) {
      due.is("five, rota(" + n + ")", five.rota(n), -3);
      due.is("five, rotaAt(" + n + ", 0)", five.rotaAt(n, 0), -3);
      due.is("five, rotaAt(" + n + ", 9)", five.rotaAt(n, 9), -3);
      for (int i : new int[] {-1, n, n + 1, Integer.MIN_VALUE, Integer.MAX_VALUE}) due.is("rotaAt(" + n + ", " + i + ")", x.rotaAt(n, i), -9);
    }
  }

  private static void allNod() {
    due.is("nobody", new SleepByRation().allNod(), 0);
    due.is("one, 0 to 1", Due.fort("F101G0000").allNod(), 1);
    due.is("one, 0 to 9", Due.fort("F109G0000").allNod(), 5);
    due.is("one, 0 to 99", Due.fort("F199G0000").allNod(), 50);
    SleepByRation x = Due.fort("F120G1700G1500");
    // 17: 19, 21 nods, then 20; 15: 17, 19, 21 nods.
    due.is("both", x.allNod(), 3);
    due.is("no act", x.about(8) + x.about(3), 0);
    x.quarter(0);
    due.is("both, one less", x.allNod(), 2);
    x.quarter(0);
    x.quarter(0);
    due.is("both already", x.allNod(), 0);
    x.drum();
    due.is("both woken", x.allNod(), 1);
    // 3: 5, 7 nods; 9: 11 nods, 10.
    due.is("one nods ahead of the other", Due.fort("F106G0300G0900").allNod(), 2);
    // In the long run each nods for four quarters and is awake for two: three that follow one another by two
    // quarters never all nod; two of them do.
    due.is("never", Due.fort("F110G0800G0400G0000").allNod(), -9);
    due.is("two of them", Due.fort("F110G0800G0400").allNod(), 3);
    // 18 quarters to nod; the other one nods, wakes behind 4 and nods again behind 6, from 1, 7, 13 on.
    due.is("one that wakes meanwhile", Due.fort("F136G0000G3400").allNod(), 19);
  }

  private static void fraction(SleepByRation x, int n, int y, long above, long below) {
    due.is("chance(" + n + ", " + y + ", true)", x.chance(n, y, true), above);
    due.is("chance(" + n + ", " + y + ", false)", x.chance(n, y, false), below);
  }

  private static void chance() {
    for (int n = 1; n <= 3; n++) for (int y = 0; y <= 10; y += 5) fraction(new SleepByRation(), n, y, 1, 1);
    // LIMIT 20: surely from 18, by chance from 8.
    SleepByRation x = Due.fort("F120G0700");
    fraction(x, 1, 3, 0, 1);
    fraction(x, 2, 3, 3, 10);
    fraction(x, 3, 3, 51, 100);
    fraction(x, 3, 0, 0, 1);
    fraction(x, 3, 10, 1, 1);
    fraction(x, 2, 5, 1, 2);
    fraction(x, 2, 4, 2, 5);
    SleepByRation edge = Due.fort("F120G0800");
    fraction(edge, 1, 3, 3, 10);
    fraction(edge, 3, 1, 271, 1000);
    // An odd LIMIT: twice 10 is 20, less than 21; twice 11 is enough.
    fraction(Due.fort("F121G0800"), 1, 3, 0, 1);
    fraction(Due.fort("F121G0900"), 1, 3, 3, 10);
    fraction(Due.fort("F120G1700"), 1, 3, 3, 10);
    fraction(Due.fort("F120G1800"), 1, 0, 1, 1);
    fraction(Due.fort("F120G1600"), 2, 0, 1, 1);
    fraction(Due.fort("F120G9900"), 1, 0, 1, 1);
    // All together: 3/10 by 51/100; one that nods stays so.
    fraction(Due.fort("F150G3000G3000"), 1, 3, 9, 100);
    SleepByRation two = Due.fort("F120G1800G0600");
    two.quarter(0);
    due.is("one nods", two.about(5), 1);
    fraction(two, 1, 7, 7, 10);
    fraction(two, 2, 7, 91, 100);
    // 20 nods, 19, 18, 17: less than LIMIT with 2 more, but who nods stays so.
    SleepByRation waning = Due.fort("F120G1800");
    for (int q = 0; q < 4; q++) waning.quarter(0);
    due.is("tired", waning.guard(0, 0), 17);
    fraction(waning, 1, 0, 1, 1);
    // Five by three quarters: (1 - (9/10)^3)^5 and its like.
    SleepByRation five = Due.fort("F199G6000G6000G6000G6000G6000");
    fraction(five, 3, 1, 1461660310351L, 1000000000000000L);
    fraction(five, 1, 2, 1, 3125);
    due.is("no act", five.about(8) + five.about(3), 0);
    due.is("nobody nods by asking", five.about(5), 0);
  }

  private static void chanceWrong() {
    SleepByRation x = Due.fort("F120G0700");
    for (int n : new int[] {0, 4, -1, Integer.MIN_VALUE, Integer.MAX_VALUE}) due.is("chance(" + n + ", 5)", x.chance(n, 5, true), -2);
    for (int y : new int[] {-1, 11, Integer.MIN_VALUE, Integer.MAX_VALUE}) {
      due.is("chance(1, " + y + ", true)", x.chance(1, y, true), -2);
      due.is("chance(1, " + y + ", false)", x.chance(1, y, false), -2);
    }
  }

  private static void plan() {
    SleepByRation x = Due.fort("F120G0711G0711G0711");
    for (int i = 0; i < 4; i++) due.is("plan(" + i + ", ..)", x.plan(i, i + 4), 0);
    for (int i = 0; i < 4; i++) due.is("plan(" + i + ", 0)", x.plan(i, 0), i + 4);
    due.is("more than beds may be planned", x.plan(0, 7), 0);
    due.is("no act", x.about(8), 0);
    due.watch(x);
    for (int i : new int[] {-1, 4, Integer.MIN_VALUE, Integer.MAX_VALUE}) due.is("plan(" + i + ", 0)", x.plan(i, 0), -2);
    for (int s : new int[] {8, -1, 1 << 31, Integer.MAX_VALUE}) due.is("plan(0, " + s + ")", x.plan(0, s), -2);
    due.unchanged();
    due.is("as it was", x.plan(0, 1), 7);
  }

  private static void weakest() {
    due.is("nobody", new SleepByRation().weakest(), 0);
    SleepByRation x = Due.fort("F299G0090G0090G0090");
    due.is("nobody in bed: the first", x.weakest(), 0);
    x.plan(2, 1);
    due.is("one in bed in the third", x.weakest(), 2);
    x.plan(3, 6);
    due.is("two in bed in the fourth", x.weakest(), 3);
    x.plan(1, 7);
    due.is("three may not be: left out", x.weakest(), 3);
    due.is("nothing is otherwise", x.about(8) + x.about(3) + x.about(7), 0);
    x.quarter(0);
    x.quarter(0);
    due.is("it begins with its first set", x.weakest(), 3);
    // Stamps for one round alone: in the second one all watch, 2 more each.
    SleepByRation y = Due.fort("F214G0010G0000");
    y.plan(0, 1);
    // 0: A in bed, B 2; 6: B 14 nods, A 12; 7: A 14 nods, B 13: nobody is awake.
    due.is("nobody awake at 7", y.weakest(), 7);
    SleepByRation z = Due.fort("F213G0010G0000");
    z.plan(1, 1);
    // 0: 2 2; 1: A 0, B 4 (1 awake); 6: B 14 nods, A 10; behind 7: A 12, B 13.
    due.is("one awake, first at 1", z.weakest(), 1);
    SleepByRation w = Due.fort("F210G0010G0000");
    w.plan(1, 1);
    // 4: B 10 nods, A 6 (1 awake); 6: A 10 nods, B 8; nobody is awake first at 6.
    due.is("nobody awake at 6", w.weakest(), 6);
    SleepByRation v = Due.fort("F116G0000");
    due.is("it nods in the eighth", v.weakest(), 7);
    due.is("it nods in no one of eight", Due.fort("F117G0000").weakest(), 0);
  }

  private static void both(SleepByRation x, int given, int owing) {
    due.is("settled(false)", x.settled(false), given);
    due.is("settled(true)", x.settled(true), owing);
  }

  private static void settled() {
    both(new SleepByRation(), 0, 0);
    both(Due.fort("F120G0053"), 3, 0);
    both(Due.fort("F120G0035"), 3, 1);
    both(Due.fort("F120G0055G0000"), 5, 0);
    both(Due.fort("F120G0035G0093"), 6, 1);
    // Its twin gives what it has left.
    both(Due.fort("F120G0035G0093T01"), 8, 0);
    both(Due.fort("F120G0039G0093T10"), 12, 0);
    both(Due.fort("F120G0028G0083T01"), 10, 1);
    both(Due.fort("F120G0083G0028T01"), 10, 2);
    both(Due.fort("F120G0028G0038T01"), 5, 3);
    both(Due.fort("F120G0009G0090G0009G0050T02T13"), 0, 5);
    both(Due.fort("F120G0009G0090G0009G0050T03T12"), 14, 1);
    SleepByRation x = Due.fort("F120G0035G0093T01");
    long[] before = Due.look(x);
    x.settled(true);
    due.are("nothing is otherwise", Due.look(x), before);
  }
}
