/** Quarters, drums and what is undone: promises 11 to 14 and their terms. */
final class ActEdges {
  private static final Due due = EdgesTest.due;

  private ActEdges() {
  }

  static void play() {
    noMoreThanBeds();
    eachNeeds();
    sickOwes();
    othersGive();
    oneForBoth();
    whichGives();
    inBed();
    nodding();
    wakes();
    watching();
    nods();
    awake();
    blind();
    drummed();
    twelve();
    undone();
    sickStays();
    may();
    mayBad();
    quarter();
    quarterRefused();
    drum();
    undo();
    undoLate();
  }

  private static void noMoreThanBeds() {
    EdgesTest.terms("A QUARTER with some in BED: it may be, if they are no more than BEDS,");
    for (int beds = 0; beds <= 5; beds++) {
      SleepByRation x = Due.fort("F" + beds + "99G0010G0010G0010G0010G0010");
      for (int n = 0; n <= 5; n++) {
        due.is(n + " in " + beds + " beds", x.may((1 << n) - 1), n <= beds ? 1 : 0);
        due.is("the last " + n + " in " + beds + " beds", x.may(31 & -(32 >> n)), n <= beds ? 1 : 0);
      }
    }
    // Twins by one stamp are two in bed; so are two sick ones.
    due.is("twins in one bed", Due.fort("F199G0090G0090T01").may(3), 0);
    SleepByRation sick = Due.fort("F199G0090G0090");
    sick.sick(0, true);
    sick.sick(1, true);
    due.is("sick ones in one bed", sick.may(3), 0);
  }

  private static void eachNeeds() {
    EdgesTest.terms("and each has what it needs:");
    SleepByRation x = Due.fort("F599G0010G0010G0000G0010G0010");
    due.is("all but the one without", x.may(27), 1);
    for (int g = 0; g < 5; g++) due.is("it and " + g, x.may(4 | 1 << g), 0);
    due.is("it among all", x.may(31), 0);
    due.is("nobody needs a thing", Due.fort("F099G0000").may(0), 1);
  }

  private static void sickOwes() {
    EdgesTest.terms("a SICK one owes one STAMP more (9 at most);");
    SleepByRation x = Due.fort("F599G0008G0098");
    x.sick(0, true);
    x.sick(1, true);
    due.is("both owe 8", x.may(3), 1);
    due.is("quarter(3)", x.quarter(3), 0);
    due.are("owed", Due.row(x, 2), 9, 9);
    due.are("no stamp is given", Due.row(x, 1), 0, 9);
    due.is("both owe 9", x.may(3), 0);
    due.is("one of them", x.may(1), 0);
    due.is("the other, with stamps", x.may(2), 0);
    x.sick(1, false);
    due.is("not sick, it may give a stamp", x.may(2), 1);
  }

  private static void othersGive() {
    EdgesTest.terms("of others each gives a STAMP;");
    SleepByRation x = Due.fort("F599G0010G0090G0000");
    due.is("quarter(3)", x.quarter(3), 4);
    due.are("stamps", Due.row(x, 1), 0, 8, 0);
    due.are("nothing is owed", Due.row(x, 2), 0, 0, 0);
    due.is("the last was given", x.may(1), 0);
    due.is("none ever", x.may(4), 0);
    SleepByRation y = Due.fort("F599G0019");
    due.is("owing 9 is no matter", y.quarter(1), 0);
    due.are("stamps, owed", new long[] {y.guard(0, 1), y.guard(0, 2)}, 0, 9);
  }

  private static void oneForBoth() {
    EdgesTest.terms("if both TWINS are in BED and not SICK, one of them gives one for both");
    SleepByRation x = Due.fort("F599G0000G0010T01G0010");
    due.is("one stamp for both", x.may(3), 1);
    due.is("alone it has none", x.may(1), 0);
    due.is("with another one it has none", x.may(5), 0);
    due.is("quarter(3)", x.quarter(3), 4);
    due.are("stamps", Due.row(x, 1), 0, 0, 1);
    due.is("none for both", x.may(3), 0);
    SleepByRation one = Due.fort("F599G0010G0030T01");
    one.sick(1, true);
    due.is("one is sick", one.quarter(3), 0);
    due.are("the other gives its own", Due.row(one, 1), 0, 3);
    due.are("the sick one owes", Due.row(one, 2), 0, 1);
    due.is("a sick one's stamps are not for both", one.may(3), 0);
    SleepByRation both = Due.fort("F599G0010G0030T01");
    both.sick(0, true);
    both.sick(1, true);
    due.is("both are sick", both.quarter(3), 0);
    due.are("nobody gives", Due.row(both, 1), 1, 3);
    due.are("each owes", Due.row(both, 2), 1, 1);
    SleepByRation alone = Due.fort("F599G0010G0030T01");
    due.is("one is in bed", alone.quarter(1), 2);
    due.are("it gives its own", Due.row(alone, 1), 0, 3);
  }

  private static void whichGives() {
    EdgesTest.terms("(the one that has more; of like ones the lesser).");
    String[] pairs = {"T01", "T10"};
    for (String pair : pairs) {
      SleepByRation x = Due.fort("F599G0030G0040" + pair);
      x.quarter(3);
      due.are(pair + ", the second has more", Due.row(x, 1), 3, 3);
      x.quarter(3);
      due.are(pair + ", of like ones the lesser", Due.row(x, 1), 2, 3);
      SleepByRation y = Due.fort("F599G0040G0030" + pair);
      y.quarter(3);
      due.are(pair + ", the first has more", Due.row(y, 1), 3, 3);
    }
    SleepByRation z = Due.fort("F599G0010G0010G0010G0010T31T02");
    z.quarter(15);
    due.are("two pairs of like ones", Due.row(z, 1), 0, 0, 1, 1);
  }

  private static void inBed() {
    EdgesTest.terms("Then those in BED are TIRED by 4 less (0 at least), and do not NOD.");
    SleepByRation x = Due.fort("F599G0010G0310G0410G0510G9910");
    due.is("quarter(31)", x.quarter(31), 0);
    due.are("tired", Due.row(x, 0), 0, 0, 0, 1, 95);
    SleepByRation y = Due.fort("F510G9990G0810");
    y.quarter(0);
    due.is("both nod", y.about(5), 3);
    y.quarter(3);
    due.are("far beyond LIMIT and below it, neither nods", new long[] {y.about(5), y.guard(0, 0), y.guard(1, 0)}, 0, 95, 6);
    SleepByRation z = Due.fort("F510G9990");
    z.quarter(1);
    due.is("beyond LIMIT, one that did not nod does not", z.about(5), 0);
  }

  private static void nodding() {
    EdgesTest.terms("All others WATCH: one that NODS is TIRED by 1 less (0 at least),");
    SleepByRation x = Due.fort("F101G0000G9900");
    int[] low = {2, 1, 0, 0, 0};
    int[] high = {99, 98, 97, 96, 95};
    for (int q = 0; q < 5; q++) {
      x.quarter(0);
      due.are("tired behind " + (q + 1), Due.row(x, 0), low[q], high[q]);
      due.is("both nod", x.about(5), 3);
    }
  }

  private static void wakes() {
    EdgesTest.terms("and wakes, if that is less than LIMIT by 4 or more (LIMIT less 4, or less);");
    for (int limit = 1; limit <= 99; limit++) {
      // Told with LIMIT less 2 (or 0), it nods behind one quarter, at LIMIT (or 2).
      int told = Math.max(0, limit - 2);
      SleepByRation x = Due.fort("F1" + limit / 10 + limit % 10 + "G" + told / 10 + told % 10 + "00");
      x.quarter(0);
      due.is("LIMIT " + limit + ", it nods", x.guard(0, 3), 1);
      for (int q = 0; q < 3; q++) x.quarter(0);
      due.is("LIMIT " + limit + ", at LIMIT less 3 it still nods", x.guard(0, 3), 1);
      int awake = x.quarter(0);
      due.is("LIMIT " + limit + ", at LIMIT less 4 it wakes", awake, limit >= 4 ? 1 : 0);
      due.is("LIMIT " + limit + ", it nods", x.guard(0, 3), limit >= 4 ? 0 : 1);
      due.is("LIMIT " + limit + ", tired", x.guard(0, 0), Math.max(0, limit - 4));
    }
  }

  private static void watching() {
    EdgesTest.terms("one that does not is TIRED by 2 more (99 at most),");
    SleepByRation x = Due.fort("F199G0000G9600G9700G9800G9900");
    x.quarter(0);
    due.are("tired", Due.row(x, 0), 2, 98, 99, 99, 99);
  }

  private static void nods() {
    EdgesTest.terms("and NODS then, if that is LIMIT or more.");
    SleepByRation x = Due.fort("F110G0700G0800G0900G9900");
    due.is("nobody at first", x.about(5), 0);
    due.is("quarter(0)", x.quarter(0), 1);
    due.are("9 does not, 10 nods", new long[] {x.about(5), x.guard(0, 0), x.guard(1, 0)}, 14, 9, 10);
    SleepByRation y = Due.fort("F199G9600G9700G9900");
    y.quarter(0);
    due.is("98 does not, 99 does", y.about(5), 6);
    SleepByRation z = Due.fort("F102G0000");
    z.quarter(0);
    due.is("2 of LIMIT 2", z.about(5), 1);
    SleepByRation w = Due.fort("F103G0000");
    w.quarter(0);
    due.is("2 of LIMIT 3", w.about(5), 0);
  }

  private static void awake() {
    EdgesTest.terms("AWAKE are those that WATCH and do not NOD behind it;");
    SleepByRation x = Due.fort("F506G0000G0390G0400G9900");
    due.is("one watches, one is in bed, two nod just now", x.quarter(2), 1);
    // 0: 2, 4; 1: 0, 2; 2: 6, 5, 4, 3, 2; 3 nods on.
    due.is("one that nods is not", x.quarter(0), 3);
    x.drum();
    due.is("those that were woken and nod again are not", x.quarter(0), 2);
    SleepByRation y = Due.fort("F106G0400");
    Due.quarters(y, 0, 0, 0, 0);
    due.is("one that wakes in it is", y.quarter(0), 1);
  }

  private static void blind() {
    EdgesTest.terms("the WALL is BLIND, if there is none.");
    SleepByRation nobody = new SleepByRation();
    nobody.quarter(0);
    due.is("nobody at all", nobody.about(4), 1);
    SleepByRation x = Due.fort("F510G0090G0190");
    x.quarter(3);
    due.is("all are in bed", x.about(4), 1);
    x.quarter(1);
    due.is("one watches", x.about(4), 1);
    SleepByRation y = Due.fort("F510G0090G0890");
    y.quarter(1);
    due.is("one is in bed, one nods", y.about(4), 1);
    y.quarter(0);
    due.is("one nods, one watches", y.about(4), 1);
    SleepByRation z = Due.fort("F001G0000");
    Due.quarters(z, 0, 0, 0);
    due.is("it nods, three times", z.about(4), 3);
    z.drum();
    due.is("a drum is no quarter", z.about(4), 3);
  }

  private static void drummed() {
    EdgesTest.terms("A DRUM: all that NOD wake, and are TIRED by 3 more (99 at most).");
    SleepByRation x = Due.fort("F110G9300G9400G9500G9900G0100");
    x.quarter(0);
    due.is("four nod", x.about(5), 15);
    due.is("drum()", x.drum(), 4);
    due.is("nobody nods, however tired", x.about(5), 0);
    due.are("tired", Due.row(x, 0), 98, 99, 99, 99, 3);
    due.is("drum() once more", x.drum(), 0);
    due.are("tired as they were", Due.row(x, 0), 98, 99, 99, 99, 3);
  }

  private static void twelve() {
    EdgesTest.terms("ACTS (QUARTERS, DRUMS) are a row (12 at most; when it is full, the first one is forgotten);");
    // Each quarter makes it more tired by 2; every third act is a drum for nobody.
    for (int acts = 11; acts <= 26; acts++) {
      SleepByRation x = Due.fort("F199G0000");
      int[] ahead = new int[acts];
      for (int a = 0; a < acts; a++) {
        ahead[a] = x.about(3);
        due.is("an act", a % 3 == 2 ? x.drum() : x.quarter(0), a % 3 == 2 ? 0 : 1);
        due.is("acts behind " + (a + 1), x.about(8), Math.min(12, a + 1));
      }
      int left = Math.min(12, acts);
      for (int a = acts - 1; a >= acts - Math.min(12, acts); a--) {
        left--;
        due.is("undo() of " + a, x.undo(), left);
        due.are("quarters, tired", new long[] {x.about(3), x.guard(0, 0)}, ahead[a], 2 * ahead[a]);
      }
      due.is("the others are forgotten", x.undo(), -3);
      due.is("a new one", x.quarter(0), 1);
      due.is("is undone", x.undo(), 0);
    }
  }

  private static void undone() {
    EdgesTest.terms("the last one can be undone (TIRED, NODS, STAMPS, what is owed, QUARTERS, how many were BLIND,"
        + " who was how often in BED are as they were;");
    SleepByRation x = Due.fort("F508G0710G0290G0207G0090T13G9900");
    x.sick(2, true);
    Due.quarters(x, 0, 14);
    long[] ahead = Due.look(x);
    due.are("ahead of it", told(x), 106, 17, 9, 8, 2, 1, 1);
    due.is("quarter(15)", x.quarter(15), 0);
    due.are("behind it", told(x), 101, 16, 8, 9, 3, 2, 2);
    x.undo();
    due.are("a quarter undone", Due.look(x), ahead);
    due.is("drum()", x.drum(), 2);
    x.undo();
    due.are("a drum undone", Due.look(x), ahead);
    // What was handed on and paid since then is as it was too.
    SleepByRation y = Due.fort("F508G0755G0000");
    long[] first = Due.look(y);
    y.quarter(0);
    y.hand(0, 1, 2);
    y.pay(0, 3);
    y.undo();
    due.are("handed on and paid since then", Due.look(y), first);
  }

  /** Tired of all, who nods, stamps of 3, what 2 owes, quarters, how many were blind, how often 1 was in bed. */
  private static long[] told(SleepByRation x) {
    return new long[] {x.about(7), x.about(5), x.guard(3, 1), x.guard(2, 2), x.about(3), x.about(4), x.guard(1, 6)};
  }

  private static void sickStays() {
    EdgesTest.terms("who is SICK stays).");
    SleepByRation x = Due.fort("F508G0010G0010");
    x.sick(0, true);
    x.quarter(0);
    x.sick(0, false);
    x.sick(1, true);
    x.undo();
    due.is("who is sick", x.about(6), 2);
    x.drum();
    x.sick(0, true);
    x.undo();
    due.is("who is sick", x.about(6), 3);
  }

  private static void may() {
    EdgesTest.promise(11, "Whether a QUARTER with some in BED may be: 1, 0.");
    SleepByRation x = Due.fort("F199G0010G0000");
    long[] before = Due.look(x);
    due.are("may(0 .. 3)", new long[] {x.may(0), x.may(1), x.may(2), x.may(3)}, 1, 1, 0, 0);
    due.are("asking changes nothing", Due.look(x), before);
  }

  private static void mayBad() {
    EdgesTest.promise(11, "BAD: beds (bits of GUARDS).");
    for (int n = 0; n <= 5; n++) {
      SleepByRation x = Due.fort("F599" + "G0010".repeat(n));
      due.is("all of " + n, x.may((1 << n) - 1), 1);
      for (int s : new int[] {1 << n, 1 << n | 1, 32, 1 << 30, -1, EdgesTest.LEAST, EdgesTest.MOST}) due.is(n + " guards, may(" + s + ")", x.may(s), -2);
    }
  }

  private static void quarter() {
    EdgesTest.promise(12, "A QUARTER: who is AWAKE, as bits.");
    SleepByRation x = Due.fort("F599G0090G0090G0090G0090G0090");
    for (int s = 0; s < 32; s++) {
      due.is("quarter(" + s + ")", x.quarter(s), 31 & ~s);
      x.undo();
    }
  }

  private static void quarterRefused() {
    EdgesTest.promise(12, "BAD; LATE: it may not be.");
    SleepByRation x = Due.fort("F199G0010G0000G0009");
    x.sick(2, true);
    for (int q = 0; q < 12; q++) x.quarter(0);
    due.watch(x);
    for (int s : new int[] {8, 9, 32, 1 << 30, -1, EdgesTest.LEAST, EdgesTest.MOST}) due.is("quarter(" + s + ")", x.quarter(s), -2);
    due.is("no stamp", x.quarter(2), -3);
    due.is("owes 9", x.quarter(4), -3);
    due.is("no bed", x.quarter(3), -3);
    due.unchanged();
    for (int left = 11; left >= 0; left--) due.is("a full row has forgotten nothing by it", x.undo(), left);
    due.is("quarters", x.about(3), 0);
  }

  private static void drum() {
    EdgesTest.promise(13, "A DRUM: how many wake.");
    for (int n = 0; n <= 5; n++) {
      SleepByRation x = Due.fort("F110" + "G9000".repeat(n) + "G0000".repeat(5 - n));
      due.is("nobody nods", x.drum(), 0);
      x.quarter(0);
      due.is(n + " nod", x.drum(), n);
      due.is("acts", x.about(8), 3);
    }
    due.is("nobody at all", new SleepByRation().drum(), 0);
  }

  private static void undo() {
    EdgesTest.promise(14, "The last ACT is undone: how many are left.");
    SleepByRation x = Due.fort("F199G0000");
    x.quarter(0);
    x.drum();
    x.quarter(0);
    due.are("three", new long[] {x.undo(), x.about(3), x.undo(), x.about(3), x.undo(), x.about(3)}, 2, 1, 1, 1, 0, 0);
  }

  private static void undoLate() {
    EdgesTest.promise(14, "LATE: there is none.");
    SleepByRation x = Due.fort("F199G0012");
    due.watch(x);
    due.is("undo() at first", x.undo(), -3);
    due.unchanged();
    x.quarter(0);
    x.undo();
    due.watch(x);
    due.is("undo() behind the last", x.undo(), -3);
    due.is("undo() once more", x.undo(), -3);
    due.unchanged();
    due.is("of a new object", new SleepByRation().undo(), -3);
  }
}
