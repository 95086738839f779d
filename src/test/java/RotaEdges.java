/** Rotas, when all nod, and chances: promises 15 to 18 and their terms. */
final class RotaEdges {
  private static final Due due = EdgesTest.due;

  private RotaEdges() {
  }

  static void play() {
    rotaQuarters();
    rotaMay();
    rotaBlind();
    rotaLeast();
    rotaLikeSets();
    rotaLikeQuarters();
    rotaFour();
    allNod();
    allNodNobody();
    allNodNone();
    chanceQuarters();
    chanceStays();
    chanceSurely();
    chanceTenths();
    chanceNot();
    chanceFraction();
    rotaNone();
    rotaRefused();
    rotaAtNone();
    rotaAtRefused();
    allNodPromise();
    chanceBad();
  }

  private static long[] rotaOf(SleepByRation x, int n) {
    long[] row = new long[n + 1];
    row[0] = x.rota(n);
    for (int i = 0; i < n; i++) row[i + 1] = x.rotaAt(n, i);
    return row;
  }

  private static void rotaQuarters() {
    EdgesTest.terms("A ROTA for n QUARTERS (1 .. 4): sets in BED one behind the other,");
    SleepByRation x = Due.fort("F199G2090G0000");
    // In each quarter the first one loses 4 in bed, and the other one gets 2.
    due.is("rota(0)", x.rota(0), -2);
    due.are("rota(1)", rotaOf(x, 1), 18, 1);
    due.are("rota(2)", rotaOf(x, 2), 16, 1, 1);
    due.are("rota(3)", rotaOf(x, 3), 14, 1, 1, 1);
    due.are("rota(4)", rotaOf(x, 4), 12, 1, 1, 1, 1);
    due.is("rota(5)", x.rota(5), -2);
  }

  private static void rotaMay() {
    EdgesTest.terms("all of which may be,");
    due.are("one bed", rotaOf(Due.fort("F199G2090G2090G2090"), 1), 60, 1);
    due.are("two beds", rotaOf(Due.fort("F299G2090G2090G2090"), 1), 54, 3);
    due.are("no bed", rotaOf(Due.fort("F099G2090G2090G2090"), 1), 66, 0);
    // One stamp for two quarters; used in the second, for the first by sets.
    due.are("one stamp", rotaOf(Due.fort("F199G1010G0000"), 2), 12, 0, 1);
    SleepByRation sick = Due.fort("F199G1008G0000");
    sick.sick(0, true);
    due.are("owes 8, one more", rotaOf(sick, 2), 12, 0, 1);
    SleepByRation nine = Due.fort("F199G1009G0000");
    nine.sick(0, true);
    due.are("owes 9", rotaOf(nine, 2), 18, 0, 0);
    // One stamp for both twins, once.
    due.are("twins", rotaOf(Due.fort("F299G1010G1000T01G0000"), 2), 20, 0, 3);
  }

  private static void rotaBlind() {
    EdgesTest.terms("by none of which the WALL is BLIND;");
    due.are("not all in bed", rotaOf(Due.fort("F250G1090G1090"), 1), 18, 1);
    // In bed the first would leave the wall to one that nods.
    due.are("none but one that nods", rotaOf(Due.fort("F206G0390G0500"), 1), 12, 0);
    due.are("all nod", rotaOf(Due.fort("F006G0400G0400"), 1), -9, -9);
    SleepByRation x = Due.fort("F006G0400");
    Due.quarters(x, 0, 0, 0);
    // Nodding at 4: then 3, then 2, at which it wakes.
    due.are("blind in the first of two, not in the last", rotaOf(x, 2), -9, -9, -9);
    Due.quarters(x, 0);
    due.are("it wakes in the first", rotaOf(x, 1), 2, 0);
    due.are("and watches on", rotaOf(x, 2), 4, 0, 0);
    due.are("and nods in the third", rotaOf(x, 3), -9, -9, -9, -9);
  }

  private static void rotaLeast() {
    EdgesTest.terms("by the least TIRED of all together behind them;");
    SleepByRation x = Due.fort("F150G0010G0000");
    due.are("in bed at once is best for one", rotaOf(x, 1), 2, 1);
    due.are("but not for two", rotaOf(x, 2), 4, 0, 1);
    due.are("less tired behind the first is no matter", rotaOf(Due.fort("F399G2010G2010G2010G2010"), 2), 72, 1, 14);
    due.are("all together, not the first alone", rotaOf(Due.fort("F150G0110G0910"), 1), 8, 2);
  }

  private static void rotaLikeSets() {
    EdgesTest.terms("of like ones the first by sets,");
    due.are("1, 2 or 4", rotaOf(Due.fort("F199G2010G2010G2010"), 1), 60, 1);
    due.are("2 or 4", rotaOf(Due.fort("F199G2000G2010G2010"), 1), 60, 2);
    due.are("3, 5 or 6", rotaOf(Due.fort("F299G2010G2010G2010"), 1), 54, 3);
  }

  private static void rotaLikeQuarters() {
    EdgesTest.terms("the first QUARTER's first.");
    SleepByRation x = Due.fort("F199G2010G2010");
    due.are("two", rotaOf(x, 2), 36, 1, 2);
    due.are("three", rotaOf(x, 3), 40, 0, 1, 2);
    due.are("four", rotaOf(x, 4), 44, 0, 0, 1, 2);
  }

  private static void rotaFour() {
    EdgesTest.terms("(Asked where there are 4 GUARDS at most.)");
    String four = "F199G2010G2010G2010G2010";
    due.are("four", rotaOf(Due.fort(four), 1), 82, 1);
    due.are("four, the last of them", rotaOf(Due.fort("F199G2000G2000G2000G2010"), 1), 82, 8);
    due.is("five", Due.fort(four + "G2010").rota(1), -3);
    due.is("five, rotaAt", Due.fort(four + "G2010").rotaAt(1, 0), -3);
  }

  private static void allNod() {
    EdgesTest.terms("ALL NOD: the fewest QUARTERS (0 .. 99) with nobody in BED behind which all NOD");
    SleepByRation x = Due.fort("F199G9700G9500");
    due.is("two from now", x.allNod(), 2);
    x.quarter(0);
    due.is("one from now", x.allNod(), 1);
    x.quarter(0);
    due.is("all nod already", x.allNod(), 0);
    due.is("asking is no act", x.about(8), 2);
    due.is("the longest climb", Due.fort("F199G0000").allNod(), 50);
    due.is("LIMIT 1", Due.fort("F101G0000G0000").allNod(), 1);
    // 1 nods behind 49 .. 53; 92 is awake behind 49 and 50, 88 behind 51 and 52, as behind every sixth.
    due.is("all at last", Due.fort("F198G0100G9200G8800").allNod(), 53);
    due.is("nobody is in bed, though there are beds and stamps", Due.fort("F510G0490").allNod(), 3);
  }

  private static void allNodNobody() {
    EdgesTest.terms("(nobody: 0);");
    due.is("a new object", new SleepByRation().allNod(), 0);
    due.is("a fortress without guards", Due.fort("F599").allNod(), 0);
  }

  private static void allNodNone() {
    EdgesTest.terms("NONE.");
    // 0 nods behind 49 .. 52 alone: by turns one of the three is awake for ever.
    due.is("never", Due.fort("F198G0000G9200G8800").allNod(), -9);
    due.is("never, sooner", Due.fort("F110G0800G0400G0000").allNod(), -9);
  }

  private static void fraction(String what, SleepByRation x, int n, int tenths, long above, long below) {
    due.is(what + ", chance(" + n + ", " + tenths + ", true)", x.chance(n, tenths, true), above);
    due.is(what + ", chance(" + n + ", " + tenths + ", false)", x.chance(n, tenths, false), below);
  }

  private static void chanceQuarters() {
    EdgesTest.terms("CHANCE that all NOD behind n QUARTERS (1 .. 3) with nobody in BED,");
    SleepByRation x = Due.fort("F550G3090");
    due.is("n 0", x.chance(0, 1, true), -2);
    fraction("one", x, 1, 1, 1, 10);
    fraction("two", x, 2, 1, 19, 100);
    fraction("three", x, 3, 1, 271, 1000);
    due.is("n 4", x.chance(4, 1, true), -2);
    fraction("all, not some", Due.fort("F150G3000G0000"), 3, 10, 0, 1);
    fraction("nobody", new SleepByRation(), 1, 0, 1, 1);
    due.are("asking changes nothing", new long[] {x.about(3), x.about(5), x.about(8), x.guard(0, 0)}, 0, 0, 0, 30);
  }

  private static void chanceStays() {
    EdgesTest.terms("if who NODS stays so,");
    SleepByRation x = Due.fort("F106G0400");
    Due.quarters(x, 0, 0, 0, 0);
    due.are("it would wake in the next quarter", new long[] {x.guard(0, 0), x.guard(0, 3)}, 3, 1);
    for (int n = 1; n <= 3; n++) fraction("it stays so", x, n, 0, 1, 1);
    SleepByRation y = Due.fort("F150G3000");
    fraction("one that nods in the first or in the second", y, 2, 5, 3, 4);
  }

  private static void chanceSurely() {
    EdgesTest.terms("and who does not NODS, once it is TIRED by 2 more in a QUARTER: surely, if that is LIMIT or more;");
    fraction("18 and 2 of 20", Due.fort("F120G1800"), 1, 0, 1, 1);
    fraction("17 and 2 of 20", Due.fort("F120G1700"), 1, 0, 0, 1);
    fraction("17 and 4 of 20", Due.fort("F120G1700"), 2, 0, 1, 1);
    fraction("16 and 4 of 20", Due.fort("F120G1600"), 2, 0, 1, 1);
    fraction("15 and 4 of 20", Due.fort("F120G1500"), 2, 0, 0, 1);
    fraction("14 and 6 of 20", Due.fort("F120G1400"), 3, 0, 1, 1);
    fraction("13 and 6 of 20", Due.fort("F120G1300"), 3, 0, 0, 1);
    fraction("99 of 99", Due.fort("F199G9900"), 1, 0, 1, 1);
    fraction("96 and 2 of 99", Due.fort("F199G9600"), 1, 0, 0, 1);
    fraction("far beyond", Due.fort("F101G9900"), 3, 0, 1, 1);
  }

  private static void chanceTenths() {
    EdgesTest.terms("by x tenths (0 .. 10), if twice that is LIMIT or more;");
    long[] above = {0, 1, 1, 3, 2, 1, 3, 7, 4, 9, 1};
    long[] below = {1, 10, 5, 10, 5, 2, 5, 10, 5, 10, 1};
    SleepByRation x = Due.fort("F120G0800");
    for (int t = 0; t <= 10; t++) fraction("twice 10 is 20", x, 1, t, above[t], below[t]);
    due.is("x -1", x.chance(1, -1, true), -2);
    due.is("x 11", x.chance(1, 11, true), -2);
    fraction("twice 9 is less than 20", Due.fort("F120G0700"), 1, 5, 0, 1);
    fraction("twice 10 is less than 21", Due.fort("F121G0800"), 1, 5, 0, 1);
    fraction("twice 11 is more than 21", Due.fort("F121G0900"), 1, 5, 1, 2);
    fraction("twice 2 of 4", Due.fort("F104G0000"), 1, 5, 1, 2);
    fraction("twice 2 of 5", Due.fort("F105G0000"), 1, 5, 0, 1);
    fraction("19 of 20", Due.fort("F120G1700"), 1, 5, 1, 2);
  }

  private static void chanceNot() {
    EdgesTest.terms("else not.");
    fraction("9 of 20", Due.fort("F120G0700"), 1, 10, 0, 1);
    fraction("not in the first of two, perhaps in the second", Due.fort("F120G0700"), 2, 3, 3, 10);
    fraction("6 of 99", Due.fort("F199G0000"), 3, 10, 0, 1);
  }

  private static void chanceFraction() {
    EdgesTest.terms("A FRACTION.");
    SleepByRation five = Due.fort("F199G6000G6000G6000G6000G6000");
    fraction("the longest below", five, 3, 1, 1461660310351L, 1000000000000000L);
    fraction("none", five, 3, 0, 0, 1);
    fraction("all", five, 3, 10, 1, 1);
    fraction("a fifth of five each", five, 1, 2, 1, 3125);
  }

  private static void rotaNone() {
    EdgesTest.promise(15, "A ROTA: TIRED of all behind it; NONE: there is none.");
    due.is("nobody", new SleepByRation().rota(1), -9);
    due.is("one that nods at LIMIT", Due.fort("F105G0300").rota(1), -9);
    due.is("one below LIMIT", Due.fort("F105G0200").rota(1), 4);
    due.is("but not for two", Due.fort("F105G0200").rota(2), -9);
    due.is("one that only sleeps", Due.fort("F101G0090").rota(1), -9);
    due.is("one in bed, one on the wall", Due.fort("F399G0090G0090").rota(1), 2);
  }

  private static void rotaRefused() {
    EdgesTest.promise(15, "BAD: n; LATE: there are more than 4 GUARDS.");
    SleepByRation x = Due.fort("F199G2010");
    for (int n : new int[] {0, 5, -1, -4, EdgesTest.LEAST, EdgesTest.MOST}) due.is("rota(" + n + ")", x.rota(n), -2);
    for (int n = 1; n <= 4; n++) {
      due.is("four, rota(" + n + ")", Due.fort("F099" + "G0000".repeat(4)).rota(n), 8 * n);
      due.is("five, rota(" + n + ")", Due.fort("F099" + "G0000".repeat(5)).rota(n), -3);
    }
  }

  private static void rotaAtNone() {
    EdgesTest.promise(16, "Who is in BED in its i-th QUARTER (from 0), as bits; NONE: there is none such.");
    SleepByRation x = Due.fort("F199G0010G0000");
    for (int n = 1; n <= 4; n++) {
      due.is("rotaAt(" + n + ", 0)", x.rotaAt(n, 0), n == 1 ? 1 : 0);
      due.is("rotaAt(" + n + ", " + (n - 1) + ")", x.rotaAt(n, n - 1), 1);
      for (int i : new int[] {-1, n, n + 1, EdgesTest.LEAST, EdgesTest.MOST}) due.is("rotaAt(" + n + ", " + i + ")", x.rotaAt(n, i), -9);
    }
    SleepByRation none = Due.fort("F105G0200");
    due.are("no rota for two", new long[] {none.rotaAt(1, 0), none.rotaAt(2, 0), none.rotaAt(2, 1), none.rotaAt(1, 0)}, 0, -9, -9, 0);
    due.is("nobody", new SleepByRation().rotaAt(1, 0), -9);
  }

  private static void rotaAtRefused() {
    EdgesTest.promise(16, "BAD; LATE.");
    SleepByRation x = Due.fort("F199G2010");
    for (int n : new int[] {0, 5, -1, EdgesTest.LEAST, EdgesTest.MOST}) due.is("rotaAt(" + n + ", 0)", x.rotaAt(n, 0), -2);
    for (int n = 1; n <= 4; n++) due.is("five, rotaAt(" + n + ", 0)", Due.fort("F099" + "G0000".repeat(5)).rotaAt(n, 0), -3);
  }

  private static void allNodPromise() {
    EdgesTest.promise(17, "ALL NOD; NONE.");
    due.is("one", Due.fort("F110G0800").allNod(), 1);
    due.is("three that follow one another", Due.fort("F110G0800G0400G0000").allNod(), -9);
    due.is("three that do not", Due.fort("F110G0800G0400G0200").allNod(), 4);
  }

  private static void chanceBad() {
    EdgesTest.promise(18, "BAD: n (1 .. 3), x.");
    SleepByRation x = Due.fort("F120G0800");
    for (boolean upper : new boolean[] {true, false}) {
      for (int n : new int[] {0, 4, -1, EdgesTest.LEAST, EdgesTest.MOST}) due.is("chance(" + n + ", 5)", x.chance(n, 5, upper), -2);
      for (int t : new int[] {-1, 11, EdgesTest.LEAST, EdgesTest.MOST}) due.is("chance(1, " + t + ")", x.chance(1, t, upper), -2);
      due.is("nobody, chance(4, 5)", new SleepByRation().chance(4, 5, upper), -2);
      due.is("nobody, chance(1, 11)", new SleepByRation().chance(1, 11, upper), -2);
    }
    for (int n = 1; n <= 3; n++) {
      due.is("chance(" + n + ", 0)", x.chance(n, 0, true), 0);
      due.is("chance(" + n + ", 10)", x.chance(n, 10, true), 1);
    }
  }
}
