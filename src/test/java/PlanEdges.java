/** The plan, its weakest hour, and what is settled: promises 19 to 21 and their terms. */
final class PlanEdges {
  private static final Due due = EdgesTest.due;

  private PlanEdges() {
  }

  static void play() {
    fourSets();
    againAndAgain();
    nextEight();
    leftOut();
    own();
    twins();
    given();
    planned();
    plannedBad();
    weakest();
    settled();
  }

  private static long[] sets(SleepByRation x) {
    long[] row = new long[4];
    for (int i = 0; i < 4; i++) {
      row[i] = x.plan(i, 0);
      x.plan(i, (int) row[i]);
    }
    return row;
  }

  private static SleepByRation planOf(String text, int... beds) {
    SleepByRation x = Due.fort(text);
    for (int i = 0; i < beds.length; i++) x.plan(i, beds[i]);
    return x;
  }

  private static void fourSets() {
    EdgesTest.terms("THE PLAN has 4 sets (0 at first, and when THE FORTRESS is made anew),");
    due.are("of a new object", sets(new SleepByRation()), 0, 0, 0, 0);
    SleepByRation x = planOf("F199G0090G0090", 1, 2, 3, 1);
    due.are("told", sets(x), 1, 2, 3, 1);
    due.is("fortress() of the same text", x.fortress(), 2);
    due.are("made anew", sets(x), 0, 0, 0, 0);
  }

  private static void againAndAgain() {
    EdgesTest.terms("one behind the other, again and again.");
    // Only one is awake from the fifth quarter on: the plan's second set, once more in the sixth, puts it in bed.
    String text = "F110G0090G0000";
    due.is("the first set in the fifth", planOf(text, 1, 0, 0, 0).weakest(), 4);
    due.is("the second in the sixth", planOf(text, 0, 1, 0, 0).weakest(), 5);
    due.is("the third in the seventh", planOf(text, 0, 0, 1, 0).weakest(), 6);
    due.is("the fourth in the eighth", planOf(text, 0, 0, 0, 1).weakest(), 7);
    SleepByRation x = planOf("F199G0090G0000", 0, 1, 0, 0);
    due.is("in the second", x.weakest(), 1);
    Due.quarters(x, 0, 0, 0);
    due.is("it begins with the first set, whatever quarters were", x.weakest(), 1);
  }

  private static void nextEight() {
    EdgesTest.terms("WEAKEST: of the next 8 QUARTERS by it the first (0 .. 7) behind which fewest are AWAKE;");
    // One that nods when it has watched for n quarters.
    for (int n = 1; n <= 9; n++) {
      String limit = "" + 2 * n / 10 + 2 * n % 10;
      due.is("nods behind " + n, Due.fort("F1" + limit + "G0000").weakest(), n <= 8 ? n - 1 : 0);
    }
    due.is("nobody", new SleepByRation().weakest(), 0);
    due.is("like ones, the first", planOf("F199G0090G0090", 0, 1, 2, 1).weakest(), 1);
    due.is("fewest, not few", planOf("F299G0090G0090G0090", 1, 0, 3, 6).weakest(), 2);
  }

  private static void leftOut() {
    EdgesTest.terms("a set that may not be is left out (nobody is in BED then).");
    due.is("no stamp", planOf("F299G0000G0090", 1, 0, 2, 0).weakest(), 2);
    due.is("one of two has none", planOf("F299G0000G0090", 3, 0, 2, 0).weakest(), 2);
    due.is("more than beds", planOf("F199G0090G0090", 3, 0, 0, 2).weakest(), 3);
    SleepByRation sick = planOf("F199G0099G0090", 1, 2, 0, 0);
    sick.sick(0, true);
    due.is("a sick one that owes 9", sick.weakest(), 1);
    SleepByRation credit = planOf("F199G0008G0090", 1, 2, 0, 0);
    credit.sick(0, true);
    due.is("a sick one that owes 8", credit.weakest(), 0);
    // The one stamp is given in the first round; left out in the second, the first one nods there in the eighth, as the other does.
    due.is("stamps are given on the way", planOf("F214G0010G0000", 1, 0, 0, 0).weakest(), 7);
  }

  private static void both(String text, int given, int owing) {
    SleepByRation x = Due.fort(text);
    due.is(text + " settled(false)", x.settled(false), given);
    due.is(text + " settled(true)", x.settled(true), owing);
  }

  private static void own() {
    EdgesTest.terms("SETTLED: each gives what it owes out of its STAMPS;");
    both("F199G0000", 0, 0);
    both("F199G0090", 0, 0);
    both("F199G0009", 0, 1);
    both("F199G0055", 5, 0);
    both("F199G0056", 5, 1);
    both("F199G0065", 5, 0);
    both("F199G0090G0009", 0, 2);
  }

  private static void twins() {
    EdgesTest.terms("what it lacks its TWIN gives out of what that has left then:");
    both("F199G0005G0050T01", 5, 0);
    both("F199G0006G0050T01", 5, 1);
    both("F199G0005G0050T10", 5, 0);
    both("F199G0050G0005T01", 5, 0);
    // The twin's own comes first: of 9 it has 6 left.
    both("F199G0006G0093T01", 9, 0);
    both("F199G0007G0093T01", 9, 1);
    both("F199G0093G0007T01", 9, 2);
    both("F199G0025G0058T01", 7, 3);
    // The twin of another one is no help.
    both("F199G0005G0000G0050G0000T01T23", 0, 1);
  }

  private static void given() {
    EdgesTest.terms("how many STAMPS are given in all, where each gives as many as it can; who still owes then, as bits.");
    both("F199G0099G0099G0099G0099G0099", 45, 0);
    both("F199G0009G0009G0009G0009G0009", 0, 31);
    both("F199G0090G0009T01G0009G0090T32G0001", 18, 16);
  }

  private static void planned() {
    EdgesTest.promise(19, "One set of THE PLAN (i 0 .. 3): what it was.");
    SleepByRation x = Due.fort("F099G0000G0000G0000G0000G0000");
    for (int i = 0; i < 4; i++) {
      due.is("at first", x.plan(i, 31 - i), 0);
      due.is("then", x.plan(i, i), 31 - i);
    }
    due.are("each its own", sets(x), 0, 1, 2, 3);
  }

  private static void plannedBad() {
    EdgesTest.promise(19, "BAD: i, beds (bits of GUARDS).");
    for (int n = 0; n <= 5; n++) {
      SleepByRation x = Due.fort("F099" + "G0000".repeat(n));
      due.is("all of " + n + ", that may never be", x.plan(0, (1 << n) - 1), 0);
      due.watch(x);
      for (int i : new int[] {-1, 4, EdgesTest.LEAST, EdgesTest.MOST}) due.is("plan(" + i + ", 0)", x.plan(i, 0), -2);
      for (int s : new int[] {1 << n, 32, -1, EdgesTest.LEAST, EdgesTest.MOST}) due.is(n + " guards, plan(3, " + s + ")", x.plan(3, s), -2);
      due.unchanged();
    }
  }

  private static void weakest() {
    EdgesTest.promise(20, "WEAKEST.");
    SleepByRation x = planOf("F110G0090G0000", 0, 1, 0, 0);
    long[] before = Due.look(x);
    due.is("weakest()", x.weakest(), 5);
    due.are("asking changes nothing", Due.look(x), before);
  }

  private static void settled() {
    EdgesTest.promise(21, "SETTLED: how many STAMPS are given (who = false), who still owes (who = true), as bits.");
    SleepByRation x = Due.fort("F199G0029G0093T01G0001");
    long[] before = Due.look(x);
    due.is("settled(false)", x.settled(false), 11);
    due.is("settled(true)", x.settled(true), 5);
    due.are("asking changes nothing", Due.look(x), before);
    due.is("nobody, settled(false)", new SleepByRation().settled(false), 0);
    due.is("nobody, settled(true)", new SleepByRation().settled(true), 0);
  }
}
