/** The refusals, which comes first, what they leave, and how fractions are told: section 4 of the terms. */
final class RefusalEdges {
  private static final Due due = EdgesTest.due;

  private RefusalEdges() {
  }

  static void play() {
    unknown();
    bad();
    late();
    full();
    toldFirst();
    changesNothing();
    none();
    fractions();
  }

  private static void unknown() {
    EdgesTest.terms("UNKNOWN -1 (there is no such GUARD, SLOT),");
    due.is("UNKNOWN", SleepByRation.UNKNOWN, -1);
    SleepByRation x = Due.fort("F199G0099G0099");
    for (int g : new int[] {-1, 2}) {
      due.are("guard " + g, new long[] {x.guard(g, 0), x.sick(g, true), x.hand(g, 0, 1), x.hand(0, g, 1), x.pay(g, 1), x.use(1, g, 1)},
          -1, -1, -1, -1, -1, -1);
      due.are("slot " + g, new long[] {x.keep(g), x.again(g)}, -1, -1);
    }
  }

  private static void bad() {
    EdgesTest.terms("BAD -2,");
    due.is("BAD", SleepByRation.BAD, -2);
    SleepByRation x = Due.fort("F199G0099G0099");
    due.are("too small", new long[] {x.write(0, 0), x.about(-1), x.guard(0, -1), x.hand(0, 1, 0), x.pay(0, 0), x.may(-1), x.quarter(-1), x.rota(0),
        x.rotaAt(0, 0), x.chance(0, 0, true), x.chance(1, -1, true), x.plan(-1, 0), x.plan(0, -1), x.use(-1, 0, 0), x.use(0, 0, -1)},
        -2, -2, -2, -2, -2, -2, -2, -2, -2, -2, -2, -2, -2, -2, -2);
    due.are("too large", new long[] {x.write(9, 0), x.about(11), x.guard(0, 7), x.hand(0, 1, 10), x.pay(0, 10), x.may(4), x.quarter(4), x.rota(5),
        x.rotaAt(5, 0), x.chance(4, 0, true), x.chance(1, 11, true), x.plan(4, 0), x.plan(0, 4), x.use(100, 0, 0), x.use(0, 0, 100)},
        -2, -2, -2, -2, -2, -2, -2, -2, -2, -2, -2, -2, -2, -2, -2);
    due.is("both are one", x.hand(1, 1, 1), -2);
  }

  private static void late() {
    EdgesTest.terms("LATE -3,");
    due.is("LATE", SleepByRation.LATE, -3);
    SleepByRation x = Due.fort("F199G0010G0000G0000G0000G0000");
    due.are("late", new long[] {x.hand(0, 1, 2), x.pay(0, 1), x.pay(1, 1), x.quarter(2), x.undo(), x.rota(1), x.rotaAt(1, 0), x.again(0)},
        -3, -3, -3, -3, -3, -3, -3, -3);
    due.is("a fault", Due.anew(x, "F"), -3);
  }

  private static void full() {
    EdgesTest.terms("FULL -4.");
    due.is("FULL", SleepByRation.FULL, -4);
    SleepByRation x = Due.fort("F199G0090G0090");
    for (int n = 0; n < 12; n++) x.use(n, 0, n);
    for (int n = 14; n < 48; n++) x.write(1, 0);
    due.are("full", new long[] {x.write(1, 0), x.hand(0, 1, 1), x.use(1, 1, 1)}, -4, -4, -4);
  }

  private static void toldFirst() {
    EdgesTest.terms("Of several what is told first.");
    SleepByRation x = Due.fort("F199G0090G0000G0090");
    for (int n = 19; n < 48; n++) x.write(1, 0);
    due.is("write: BAD, FULL", x.write(9, 0), -2);
    due.is("write: BAD, FULL", x.write(0, 0), -2);
    due.is("guard: UNKNOWN, BAD", x.guard(3, 7), -1);
    due.is("hand: UNKNOWN, BAD by n", x.hand(0, 3, 0), -1);
    due.is("hand: UNKNOWN, BAD by both", x.hand(3, 3, 1), -1);
    due.is("hand: UNKNOWN, LATE", x.hand(1, 3, 1), -1);
    due.is("hand: UNKNOWN, FULL", x.hand(3, 2, 1), -1);
    due.is("hand: BAD by n, LATE", x.hand(1, 0, 10), -2);
    due.is("hand: BAD by both, LATE", x.hand(1, 1, 1), -2);
    due.is("hand: BAD by n, FULL", x.hand(0, 2, 10), -2);
    due.is("hand: BAD by both, FULL", x.hand(0, 0, 1), -2);
    due.is("hand: LATE, FULL", x.hand(1, 2, 1), -3);
    due.is("pay: UNKNOWN, BAD", x.pay(3, 0), -1);
    due.is("pay: BAD, LATE", x.pay(1, 10), -2);
    due.is("quarter: BAD, LATE by beds", x.quarter(9), -2);
    due.is("quarter: BAD, LATE by stamps", x.quarter(10), -2);
    due.is("quarter: BAD, LATE", x.quarter(-1), -2);
    for (int n = 0; n < 12; n++) x.use(n, 0, n);
    due.is("use: UNKNOWN, BAD by number", x.use(100, 3, 0), -1);
    due.is("use: UNKNOWN, BAD by quarter", x.use(0, 3, 100), -1);
    due.is("use: UNKNOWN, FULL", x.use(0, 3, 0), -1);
    due.is("use: BAD by number, FULL", x.use(100, 0, 0), -2);
    due.is("use: BAD by quarter, FULL", x.use(0, 0, 100), -2);
    due.is("again: UNKNOWN, LATE", x.again(2), -1);
    SleepByRation five = Due.fort("F199" + "G9900".repeat(5));
    for (int n : new int[] {0, 5}) {
      due.is("rota: BAD, LATE", five.rota(n), -2);
      due.is("rotaAt: BAD, LATE", five.rotaAt(n, 0), -2);
      due.is("rotaAt: BAD, LATE, and none such", five.rotaAt(n, 9), -2);
    }
    due.is("rotaAt: LATE, and none such", five.rotaAt(1, 1), -3);
  }

  /** A fortress of five with a full row of acts, both slots, a plan, a full book, and a full text that is a fault. */
  private static SleepByRation busy() {
    SleepByRation x = Due.fort("F209G0391G0790T01G0000G0009G9900");
    x.sick(3, true);
    for (int i = 0; i < 4; i++) x.plan(i, 5 + i);
    for (int q = 0; q < 6; q++) x.quarter(0);
    x.keep(0);
    for (int q = 0; q < 7; q++) x.quarter(q % 2);
    x.keep(1);
    for (int u = 0; u < 12; u++) x.use(u / 2 * 7, u % 4, u % 3);
    for (int n = 32; n < 48; n++) x.write(1, '0');
    return x;
  }

  private static void refusedByGuards(SleepByRation x) {
    due.are("UNKNOWN", new long[] {x.guard(5, 0), x.sick(5, true), x.sick(-1, true), x.hand(5, 0, 1), x.hand(1, 5, 1), x.pay(5, 1), x.use(1, 5, 1),
        x.keep(2), x.keep(-1), x.again(2), x.again(-1)}, -1, -1, -1, -1, -1, -1, -1, -1, -1, -1, -1);
    due.are("BAD", new long[] {x.write(0, 70), x.write(9, 70), x.about(11), x.guard(0, 7), x.hand(1, 1, 1), x.hand(1, 0, 0), x.hand(1, 0, 10),
        x.pay(0, 0), x.pay(0, 10), x.may(32), x.quarter(32), x.quarter(-1)}, -2, -2, -2, -2, -2, -2, -2, -2, -2, -2, -2, -2);
    due.are("BAD", new long[] {x.rota(0), x.rota(5), x.rotaAt(0, 0), x.chance(0, 1, true), x.chance(1, 11, true), x.plan(4, 1), x.plan(-1, 1),
        x.plan(0, 32), x.use(100, 0, 0), x.use(0, 0, 100)}, -2, -2, -2, -2, -2, -2, -2, -2, -2, -2);
  }

  private static void refusedByState(SleepByRation x) {
    due.are("LATE", new long[] {x.fortress(), x.hand(2, 0, 1), x.pay(2, 1), x.pay(1, 1), x.pay(3, 1), x.quarter(4), x.quarter(8), x.quarter(7),
        x.rota(1), x.rotaAt(1, 0)}, -3, -3, -3, -3, -3, -3, -3, -3, -3, -3);
    due.are("FULL", new long[] {x.write(1, 70), x.write(8, 70), x.hand(0, 1, 1), x.use(0, 0, 0)}, -4, -4, -4, -4);
  }

  private static void changesNothing() {
    EdgesTest.terms("What is refused changes nothing.");
    SleepByRation x = busy();
    due.watch(x);
    refusedByGuards(x);
    refusedByState(x);
    due.unchanged();
    hidden(x, busy());
    SleepByRation y = Due.fort("F209G0391");
    y.plan(1, 1);
    due.watch(y);
    due.are("LATE", new long[] {y.undo(), y.again(0), y.again(1)}, -3, -3, -3);
    due.unchanged();
  }

  /** What look() does not tell: the acts that can be undone, what is kept. */
  private static void hidden(SleepByRation x, SleepByRation untouched) {
    for (int a = 0; a < 12; a++) {
      due.is("undo()", x.undo(), untouched.undo());
      due.is("tired of all", x.about(7), untouched.about(7));
    }
    for (int s = 0; s <= 1; s++) {
      due.is("again(" + s + ")", x.again(s), untouched.again(s));
      due.are("as kept", Due.look(x), Due.look(untouched));
    }
  }

  private static void none() {
    EdgesTest.terms("NONE is -9.");
    due.is("NONE", SleepByRation.NONE, -9);
    SleepByRation x = Due.fort("F101G0000");
    due.are("none", new long[] {x.fault(), x.guard(0, 5), x.rota(1), x.rotaAt(1, 0), x.forgedAt(0)}, -9, -9, -9, -9, -9);
    due.is("allNod()", Due.fort("F110G0800G0400G0000").allNod(), -9);
  }

  private static void fractions() {
    EdgesTest.terms("FRACTIONS are told above (upper = true), below, in least terms.");
    SleepByRation x = Due.fort("F120G0800");
    due.are("5 of 10", new long[] {x.chance(1, 5, true), x.chance(1, 5, false)}, 1, 2);
    due.are("3 of 10", new long[] {x.chance(1, 3, true), x.chance(1, 3, false)}, 3, 10);
    due.are("0 of 10", new long[] {x.chance(1, 0, true), x.chance(1, 0, false)}, 0, 1);
    due.are("10 of 10", new long[] {x.chance(1, 10, true), x.chance(1, 10, false)}, 1, 1);
    due.are("64 of 100", new long[] {x.chance(2, 4, true), x.chance(2, 4, false)}, 16, 25);
    due.are("992 of 1000", new long[] {x.chance(3, 8, true), x.chance(3, 8, false)}, 124, 125);
  }
}
