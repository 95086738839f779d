/** Promises 11 to 14: what a quarter may be, quarters, drums, all undone. */
public final class ActsTest {
  private static final Due due = new Due("ActsTest");

  public static void main(String[] args) {
    mayByBeds();
    mayByStamps();
    mayByTwins();
    mayWrong();
    quarterInBed();
    quarterOnWatch();
    quarterOfTwins();
    quarterWrong();
    drum();
    undo();
    undoTwelve();
    due.end();
  }

  private static long[] tired(SleepByRation x) {
    return Due.row(x, 0);
  }

  private static void mayByBeds() {
    for (int beds = 0; beds <= 5; beds++) {
      SleepByRation x = Due.fort("F" + beds + "50G0010G0010G0010G0010G0010");
      for (int s = 0; s < 32; s++) due.is(beds + " beds, may(" + s + ")", x.may(s), Integer.bitCount(s) <= beds ? 1 : 0);
      due.is("no act", x.about(8) + x.about(3), 0);
    }
  }

  private static void mayByStamps() {
    SleepByRation x = Due.fort("F550G0000G0010G0089G0098");
    due.is("no stamp", x.may(1), 0);
    due.is("one stamp", x.may(2), 1);
    due.is("one with, one without", x.may(3), 0);
    due.is("owing 9, not sick", x.may(4), 1);
    for (int g = 0; g < 4; g++) x.sick(g, true);
    due.is("a sick one without stamps", x.may(1), 1);
    due.is("a sick one that owes 9", x.may(4), 0);
    due.is("a sick one that owes 8", x.may(8), 1);
    due.is("sick ones, one owes 9", x.may(15), 0);
    due.is("sick ones", x.may(11), 1);
    due.is("nobody", x.may(0), 1);
  }

  private static void mayByTwins() {
    SleepByRation x = Due.fort("F550G0000G0010T01G0010");
    due.is("without a stamp, alone", x.may(1), 0);
    due.is("its twin alone", x.may(2), 1);
    due.is("one stamp for both", x.may(3), 1);
    due.is("another one's stamp is not for it", x.may(5), 0);
    x.sick(0, true);
    due.is("one sick: each as it is", x.may(3), 1);
    x.sick(0, false);
    x.sick(1, true);
    due.is("the one with the stamp is sick", x.may(3), 0);
    due.is("two without stamps", Due.fort("F550G0000G0000T01").may(3), 0);
    due.is("two with one each are no twins", Due.fort("F550G0000G0010").may(3), 0);
  }

  private static void mayWrong() {
    SleepByRation x = Due.fort("F550G0010G0010");
    due.watch(x);
    for (int s : new int[] {4, 5, 8, -1, -4, 1 << 31, Integer.MAX_VALUE}) due.is("may(" + s + ")", x.may(s), -2);
    due.unchanged();
  }

  private static void quarterInBed() {
    SleepByRation x = Due.fort("F530G0390G0491G0592G1203");
    x.sick(3, true);
    due.is("quarter(11)", x.quarter(11), 4);
    due.are("tired", tired(x), 0, 0, 7, 8);
    due.are("stamps", Due.row(x, 1), 8, 8, 9, 0);
    due.are("owed", Due.row(x, 2), 0, 1, 2, 4);
    due.are("how often in bed", Due.row(x, 6), 1, 1, 0, 1);
    due.is("quarters", x.about(3), 1);
    due.is("blind", x.about(4), 0);
    due.is("acts", x.about(8), 1);
    due.is("quarter(15): all in bed", x.quarter(15), 0);
    due.is("blind", x.about(4), 1);
    due.are("how often in bed", Due.row(x, 6), 2, 2, 1, 2);
    // One that nods and goes to bed does not nod, though it is still tired beyond LIMIT.
    SleepByRation y = Due.fort("F110G5010");
    due.is("quarter(0)", y.quarter(0), 0);
    due.is("nods", y.guard(0, 3), 1);
    due.is("quarter(1)", y.quarter(1), 0);
    due.is("nods not", y.guard(0, 3), 0);
    due.is("tired", y.guard(0, 0), 48);
    due.is("blind both", y.about(4), 2);
  }

  private static void quarterOnWatch() {
    // LIMIT 6: one nods at 6, and wakes at 2.
    SleepByRation x = Due.fort("F106G0300G0400G0500G9800");
    due.is("quarter(0)", x.quarter(0), 1);
    due.are("tired", tired(x), 5, 6, 7, 99);
    due.is("who nods", x.about(5), 14);
    due.is("quarter(0)", x.quarter(0), 0);
    due.are("tired", tired(x), 7, 5, 6, 98);
    due.is("who nods", x.about(5), 15);
    due.is("blind", x.about(4), 1);
    due.is("quarter(0)", x.quarter(0), 0);
    due.is("quarter(0)", x.quarter(0), 0);
    due.are("tired", tired(x), 5, 3, 4, 96);
    due.is("quarter(0)", x.quarter(0), 2);
    due.are("tired, one wakes", tired(x), 4, 2, 3, 95);
    due.is("who nods", x.about(5), 13);
    due.is("quarter(0)", x.quarter(0), 6);
    due.are("tired", tired(x), 3, 4, 2, 94);
    due.is("who nods", x.about(5), 9);
    due.is("quarters", x.about(3), 6);
    due.is("blind", x.about(4), 3);
    // 99 at most, and LIMIT 99 itself is enough.
    SleepByRation y = Due.fort("F099G9600G9700G9900");
    due.is("quarter(0)", y.quarter(0), 1);
    due.are("tired", tired(y), 98, 99, 99);
    due.is("who nods", y.about(5), 6);
    // LIMIT 1: no one wakes; 0 at least.
    SleepByRation z = Due.fort("F001G0000");
    for (int q = 0; q < 6; q++) due.is("LIMIT 1 quarter(0)", z.quarter(0), 0);
    due.is("tired", z.guard(0, 0), 0);
    due.is("nods", z.guard(0, 3), 1);
    // LIMIT 4: it wakes at 0.
    SleepByRation w = Due.fort("F004G0200");
    long[] awake = new long[7];
    for (int q = 0; q < 7; q++) awake[q] = w.quarter(0);
    due.are("LIMIT 4", awake, 0, 0, 0, 0, 1, 1, 0);
    // LIMIT 3 is never undershot by 4.
    SleepByRation v = Due.fort("F003G0100");
    for (int q = 0; q < 8; q++) due.is("LIMIT 3 quarter(0)", v.quarter(0), 0);
    // Told as tired beyond LIMIT: nobody nods at first.
    SleepByRation u = Due.fort("F105G9900");
    due.is("nobody nods at first", u.about(5), 0);
    due.is("nobody at all", new SleepByRation().quarter(0), 0);
  }

  private static void quarterOfTwins() {
    SleepByRation more = Due.fort("F530G0030G0050T01G0010");
    due.is("quarter(3)", more.quarter(3), 4);
    due.are("the one that has more gives", Due.row(more, 1), 3, 4, 1);
    more.quarter(3);
    due.are("of like ones the lesser", new long[] {more.quarter(3), more.guard(0, 1), more.guard(1, 1)}, 4, 2, 3);
    SleepByRation like = Due.fort("F530G0010G0010T10");
    due.is("quarter(3)", like.quarter(3), 0);
    due.are("one gives, once", Due.row(like, 1), 0, 1);
    due.is("quarter(3)", like.quarter(3), 0);
    due.are("then the other", Due.row(like, 1), 0, 0);
    due.is("none left", like.quarter(3), -3);
    SleepByRation first = Due.fort("F530G0050G0030T01");
    first.quarter(3);
    due.are("the first has more", Due.row(first, 1), 4, 3);
    SleepByRation sick = Due.fort("F530G0050G0030T01");
    sick.sick(0, true);
    sick.quarter(3);
    due.are("one is sick: stamps", Due.row(sick, 1), 5, 2);
    due.are("one is sick: owed", Due.row(sick, 2), 1, 0);
    sick.sick(1, true);
    sick.quarter(3);
    due.are("both are sick: stamps", Due.row(sick, 1), 5, 2);
    due.are("both are sick: owed", Due.row(sick, 2), 2, 1);
    SleepByRation alone = Due.fort("F530G0050G0030T01");
    due.is("one in bed", alone.quarter(2), 1);
    due.are("it gives its own", Due.row(alone, 1), 5, 2);
    SleepByRation pairs = Due.fort("F530G0020G0030G0010G0010T02T13");
    due.is("two pairs", pairs.quarter(15), 0);
    due.are("each pair one", Due.row(pairs, 1), 1, 2, 1, 1);
  }

  private static void quarterWrong() {
    SleepByRation x = Due.fort("F110G0512G0500G0309");
    due.watch(x);
    for (int s : new int[] {8, 9, -1, 1 << 31, Integer.MAX_VALUE}) due.is("quarter(" + s + ")", x.quarter(s), -2);
    due.is("no stamp", x.quarter(2), -3);
    due.is("more than beds", x.quarter(5), -3);
    due.unchanged();
    x.sick(2, true);
    due.watch(x);
    due.is("a sick one that owes 9", x.quarter(4), -3);
    due.is("BAD is told first", x.quarter(13), -2);
    due.unchanged();
  }

  private static void drum() {
    SleepByRation x = Due.fort("F110G0900G9700G0100");
    due.is("nobody nods", x.drum(), 0);
    due.is("an act all the same", x.about(8), 1);
    due.are("nobody is more tired", tired(x), 9, 97, 1);
    x.quarter(0);
    due.is("who nods", x.about(5), 3);
    due.is("drum()", x.drum(), 2);
    due.is("who nods", x.about(5), 0);
    due.are("tired, 99 at most", tired(x), 14, 99, 3);
    due.is("no quarter", x.about(3), 1);
    due.is("acts", x.about(8), 3);
    due.is("a quarter behind it", x.quarter(0), 4);
    SleepByRation y = Due.fort("F110G0100G0200G0900G0300");
    y.quarter(0);
    due.is("one of four", y.drum(), 1);
    due.are("it alone is more tired", tired(y), 3, 4, 14, 5);
    due.is("nobody at all", new SleepByRation().drum(), 0);
  }

  private static void undo() {
    SleepByRation x = Due.fort("F207G0531G0592T01G0604");
    due.watch(x);
    due.is("undo() of nothing", x.undo(), -3);
    due.unchanged();
    long[] first = Due.look(x);
    x.sick(2, true);
    x.quarter(5);
    x.sick(0, true);
    x.hand(1, 0, 2);
    x.pay(0, 1);
    x.plan(2, 3);
    x.use(3, 1, 4);
    x.drum();
    due.is("undo() of a drum", x.undo(), 1);
    due.is("stamps as ahead of the drum", x.guard(0, 1), 3);
    due.is("undo() of a quarter", x.undo(), 0);
    due.is("who is sick stays", x.about(6), 5);
    due.is("the plan stays", x.plan(2, 0), 3);
    due.is("the book stays", x.burn(), 1);
    x.sick(0, false);
    x.sick(2, false);
    due.are("all else is as it was", Due.look(x), first);
    due.is("undo() of nothing", x.undo(), -3);
    SleepByRation y = Due.fort("F103G0230G0230");
    y.quarter(1);
    long[] one = Due.look(y);
    y.quarter(1);
    due.is("blind", y.about(4), 2);
    y.drum();
    due.is("undo()", y.undo(), 2);
    due.is("who nods again", y.about(5), 2);
    due.is("undo()", y.undo(), 1);
    due.are("as it was behind one", Due.look(y), one);
    due.is("in bed", y.guard(0, 6), 1);
    due.is("acts go on", y.quarter(0), 1);
    due.is("two acts", y.about(8), 2);
  }

  private static void undoTwelve() {
    SleepByRation x = Due.fort("F199G0100");
    for (int q = 1; q <= 15; q++) {
      x.quarter(0);
      due.is("acts behind " + q, x.about(8), Math.min(12, q));
    }
    for (int left = 11; left >= 0; left--) {
      due.is("undo()", x.undo(), left);
      due.is("quarters", x.about(3), 3 + left);
      due.is("tired", x.guard(0, 0), 1 + 2 * (3 + left));
    }
    due.watch(x);
    due.is("the first three are forgotten", x.undo(), -3);
    due.unchanged();
    for (int q = 0; q < 5; q++) x.quarter(0);
    for (int left = 4; left >= 0; left--) due.is("undo() once more", x.undo(), left);
    due.is("quarters", x.about(3), 3);
  }
}
