/** What is kept and gone on from: promises 27 and 28 and their terms. */
final class SlotEdges {
  private static final Due due = EdgesTest.due;

  private SlotEdges() {
  }

  static void play() {
    keptAll();
    noActs();
    kept();
    keptUnknown();
    asKept();
    againUnknown();
    againLate();
  }

  private static void keptAll() {
    EdgesTest.terms("SLOTS 0 .. 1 keep all of GUARDS, QUARTERS, how many were BLIND, THE PLAN");
    for (int slot = 0; slot <= 1; slot++) {
      SleepByRation x = Due.fort("F506G0354G0472T01G0163G9900");
      x.sick(2, true);
      x.plan(0, 3);
      x.plan(3, 7);
      Due.quarters(x, 7, 0);
      x.use(1, 2, 3);
      due.is("keep(" + slot + ")", x.keep(slot), 2);
      long[] kept = Due.look(x);
      due.are("who nods, who is sick, blind", new long[] {x.about(5), x.about(6), x.about(4)}, 8, 4, 1);
      x.sick(2, false);
      x.sick(0, true);
      x.hand(1, 0, 1);
      x.pay(1, 1);
      Due.quarters(x, 0, 0, 0, 1);
      x.drum();
      x.plan(0, 0);
      x.plan(1, 5);
      due.is("again(" + slot + ")", x.again(slot), 2);
      kept[8] = 0;
      due.are("all but the acts", Due.look(x), kept);
      due.is("the other slot", x.again(1 - slot), -3);
    }
    due.is("slot -1", new SleepByRation().keep(-1), -1);
    due.is("slot 2", new SleepByRation().keep(2), -1);
  }

  private static void noActs() {
    EdgesTest.terms("(no ACTS when one goes on).");
    SleepByRation x = Due.fort("F199G0000");
    for (int q = 0; q < 12; q++) x.quarter(0);
    x.keep(0);
    due.is("keeping leaves the acts", x.about(8), 12);
    x.again(0);
    due.is("acts", x.about(8), 0);
    due.is("undo()", x.undo(), -3);
    x.quarter(0);
    due.is("a new one", x.about(8), 1);
    due.is("is undone", x.undo(), 0);
    due.is("quarters", x.about(3), 12);
  }

  private static void kept() {
    EdgesTest.promise(27, "They are kept: QUARTERS.");
    SleepByRation x = Due.fort("F199G0000");
    long[] before = Due.look(x);
    due.is("at first", x.keep(0), 0);
    due.are("keeping changes nothing", Due.look(x), before);
    for (int q = 1; q <= 15; q++) {
      x.quarter(0);
      due.is("behind " + q, x.keep(q % 2), q);
    }
    due.is("slot 0, the last kept there", x.again(0), 14);
    due.is("slot 1, the last kept there", x.again(1), 15);
    due.is("of a new object", new SleepByRation().keep(1), 0);
  }

  private static void keptUnknown() {
    EdgesTest.promise(27, "UNKNOWN.");
    SleepByRation x = Due.fort("F199G0000");
    x.keep(0);
    x.quarter(0);
    x.keep(1);
    x.quarter(0);
    due.watch(x);
    for (int s : new int[] {-1, 2, 3, EdgesTest.LEAST, EdgesTest.MOST}) due.is("keep(" + s + ")", x.keep(s), -1);
    due.unchanged();
    due.is("slot 0 is as it was", x.again(0), 0);
    due.is("slot 1 is as it was", x.again(1), 1);
  }

  private static void asKept() {
    EdgesTest.promise(28, "They are as they were kept: QUARTERS.");
    SleepByRation x = Due.fort("F199G0000");
    x.quarter(0);
    x.keep(1);
    for (int turn = 0; turn < 3; turn++) {
      Due.quarters(x, 0, 0);
      x.plan(turn, 1);
      due.is("again(1)", x.again(1), 1);
      due.are("quarters, tired, plan", new long[] {x.about(3), x.guard(0, 0), x.plan(turn, 0)}, 1, 2, 0);
    }
    // The text and the book are not kept.
    x.use(1, 0, 0);
    x.wipe();
    x.again(1);
    due.are("the book, the text", new long[] {x.about(9), x.about(10)}, 1, 0);
  }

  private static void againUnknown() {
    EdgesTest.promise(28, "UNKNOWN;");
    SleepByRation x = Due.fort("F199G0000");
    x.keep(0);
    x.keep(1);
    x.quarter(0);
    due.watch(x);
    for (int s : new int[] {-1, 2, 3, EdgesTest.LEAST, EdgesTest.MOST}) due.is("again(" + s + ")", x.again(s), -1);
    due.unchanged();
  }

  private static void againLate() {
    EdgesTest.promise(28, "LATE: none were kept.");
    SleepByRation x = Due.fort("F199G0000");
    x.quarter(0);
    x.plan(1, 1);
    due.watch(x);
    due.is("again(0)", x.again(0), -3);
    due.is("again(1)", x.again(1), -3);
    due.unchanged();
    x.keep(0);
    due.is("kept in 0 alone", x.again(1), -3);
    due.is("again(0)", x.again(0), 1);
    x.fortress();
    due.is("behind a new fortress", x.again(0), -3);
    due.is("of a new object", new SleepByRation().again(0), -3);
  }
}
