/** What is told of the fortress and its guards, the sick, stamps handed on and paid: promises 6 to 10 and their terms. */
final class GuardEdges {
  private static final Due due = EdgesTest.due;

  private GuardEdges() {
  }

  static void play() {
    about();
    aboutBad();
    guard();
    guardUnknown();
    guardBad();
    sick();
    sickUnknown();
    handed();
    handUnknown();
    handBad();
    handLate();
    handFull();
    paid();
    payUnknown();
    payBad();
    payLate();
    manyCalls();
  }

  private static void about() {
    EdgesTest.promise(6, "GUARDS (what = 0), BEDS (1), LIMIT (2), QUARTERS (3), how many were BLIND (4), who NODS (5: bits), who is SICK (6: bits),"
        + " TIRED of all (7), ACTS (8), uses in THE BOOK (9), bytes of THE TEXT (10).");
    SleepByRation x = new SleepByRation();
    long[] none = new long[11];
    for (int w = 0; w <= 10; w++) none[w] = x.about(w);
    due.are("of a new object", none, 0, 0, 1, 0, 0, 0, 0, 0, 0, 0, 0);
    SleepByRation y = Due.fort("F506G9900G9900G9900G9900G0000");
    // All but the fifth nod behind the first quarter; with it in bed the wall is blind.
    Due.quarters(y, 0);
    y.sick(4, true);
    Due.quarters(y, 16);
    y.drum();
    y.sick(3, true);
    y.use(1, 0, 0);
    y.use(1, 0, 0);
    y.use(2, 0, 0);
    long[] all = new long[11];
    for (int w = 0; w <= 10; w++) all[w] = y.about(w);
    // 99, 98, and 99 by the drum; the fifth 2, 0.
    due.are("of five", all, 5, 5, 6, 2, 1, 0, 24, 396, 3, 3, 29);
    y.undo();
    due.are("who nods, tired of all", new long[] {y.about(5), y.about(7)}, 15, 392);
  }

  private static void aboutBad() {
    EdgesTest.promise(6, "BAD.");
    SleepByRation x = Due.fort("F103G0590G0590T01");
    due.watch(x);
    for (int w : new int[] {-1, 11, -9, 32, EdgesTest.LEAST, EdgesTest.MOST}) due.is("about(" + w + ")", x.about(w), -2);
    due.unchanged();
  }

  private static void guard() {
    EdgesTest.promise(7, "Of a GUARD TIRED (what = 0), STAMPS (1), what it owes (2), 1 if it NODS (3), 1 if it is SICK (4), its TWIN (5; NONE),"
        + " how often it was in BED (6).");
    SleepByRation x = Due.fort("F506G9999G0000G0501T20G5678G0413");
    x.sick(4, true);
    Due.quarters(x, 16, 21);
    // 0 nods at 99, then sleeps; 1 watches twice; 2 nods at 7, then sleeps as the twin of 0; 3 nods; 4 sleeps on credit.
    long[][] want = {{95, 8, 9, 0, 0, 2, 1}, {4, 0, 0, 0, 0, -9, 0}, {3, 0, 1, 0, 0, 0, 1}, {57, 7, 8, 1, 0, -9, 0}, {0, 1, 5, 0, 1, -9, 2}};
    for (int g = 0; g < 5; g++) {
      long[] got = new long[7];
      for (int w = 0; w < 7; w++) got[w] = x.guard(g, w);
      due.are("guard " + g, got, want[g]);
    }
  }

  private static void guardUnknown() {
    EdgesTest.promise(7, "UNKNOWN;");
    for (int n = 0; n <= 5; n++) {
      SleepByRation x = Due.fort("F199" + "G0000".repeat(n));
      if (n > 0) due.is("the last of " + n, x.guard(n - 1, 0), 0);
      for (int g : new int[] {-1, n, n + 1, 5, 32, EdgesTest.LEAST, EdgesTest.MOST}) due.is(n + " guards, guard(" + g + ", 0)", x.guard(g, 0), -1);
    }
  }

  private static void guardBad() {
    EdgesTest.promise(7, "BAD.");
    SleepByRation x = Due.fort("F199G0000G0000");
    for (int w : new int[] {-1, 7, 8, EdgesTest.LEAST, EdgesTest.MOST}) {
      due.is("guard(0, " + w + ")", x.guard(0, w), -2);
      due.is("guard(1, " + w + ")", x.guard(1, w), -2);
    }
  }

  private static void sick() {
    EdgesTest.promise(8, "One is SICK, or not: 1 if that is otherwise than it was, 0.");
    SleepByRation x = Due.fort("F199G0000G0000G0000G0000G0000");
    for (int g = 0; g < 5; g++) {
      due.is("not sick, and is not", x.sick(g, false), 0);
      due.is("sick", x.sick(g, true), 1);
      due.is("sick, and is", x.sick(g, true), 0);
      due.is("who is sick", x.about(6), (2 << g) - 1);
    }
    for (int g = 0; g < 5; g++) {
      due.is("not sick", x.sick(g, false), 1);
      due.is("not sick, and is not", x.sick(g, false), 0);
      due.is("who is sick", x.about(6), 31 & -(2 << g));
    }
  }

  private static void sickUnknown() {
    EdgesTest.promise(8, "UNKNOWN.");
    SleepByRation x = Due.fort("F199G0000G0000");
    x.sick(1, true);
    due.watch(x);
    // 32 and 33 would be 0 and 1 by a shift.
    for (int g : new int[] {-1, 2, 5, 32, 33, EdgesTest.LEAST, EdgesTest.MOST}) {
      due.is("sick(" + g + ", true)", x.sick(g, true), -1);
      due.is("sick(" + g + ", false)", x.sick(g, false), -1);
    }
    due.unchanged();
    due.is("nobody", new SleepByRation().sick(0, true), -1);
  }

  private static void handed() {
    EdgesTest.terms("HANDED on: STAMPS from one to another one (9 at most there).");
    SleepByRation x = Due.fort("F199G0090G0000");
    for (int n = 1; n <= 9; n++) due.is("one by one", x.hand(0, 1, 1), n);
    due.are("all are handed on", Due.row(x, 1), 0, 9);
    due.is("nine at once", x.hand(1, 0, 9), 9);
    due.are("and back", Due.row(x, 1), 9, 0);
    SleepByRation y = Due.fort("F199G0050G0050");
    due.is("9 there", y.hand(0, 1, 4), 9);
    due.is("10 there", y.hand(0, 1, 1), -4);
    due.are("stamps", Due.row(y, 1), 1, 9);
  }

  private static void handUnknown() {
    EdgesTest.promise(9, "HANDED on: how many the other one has. UNKNOWN;");
    SleepByRation x = Due.fort("F199G0050G0030");
    due.is("hand(0, 1, 2)", x.hand(0, 1, 2), 5);
    due.is("hand(1, 0, 5)", x.hand(1, 0, 5), 8);
    due.watch(x);
    for (int g : new int[] {-1, 2, 5, 32, EdgesTest.LEAST, EdgesTest.MOST}) {
      due.is("hand(" + g + ", 1, 1)", x.hand(g, 1, 1), -1);
      due.is("hand(0, " + g + ", 1)", x.hand(0, g, 1), -1);
      due.is("hand(" + g + ", " + g + ", 1)", x.hand(g, g, 1), -1);
    }
    due.unchanged();
  }

  private static void handBad() {
    EdgesTest.promise(9, "BAD: both are one, n (1 .. 9);");
    SleepByRation x = Due.fort("F199G0090G0000");
    due.watch(x);
    due.is("both are 0", x.hand(0, 0, 1), -2);
    due.is("both are 1", x.hand(1, 1, 1), -2);
    for (int n : new int[] {0, 10, -1, -9, EdgesTest.LEAST, EdgesTest.MOST}) due.is("n " + n, x.hand(0, 1, n), -2);
    due.unchanged();
    due.is("n 9", x.hand(0, 1, 9), 9);
    due.is("n 1", x.hand(1, 0, 1), 1);
  }

  private static void handLate() {
    EdgesTest.promise(9, "LATE: it has not as many;");
    SleepByRation x = Due.fort("F199G0040G0000");
    due.watch(x);
    due.is("5 of 4", x.hand(0, 1, 5), -3);
    due.is("1 of 0", x.hand(1, 0, 1), -3);
    due.unchanged();
    due.is("4 of 4", x.hand(0, 1, 4), 4);
  }

  private static void handFull() {
    EdgesTest.promise(9, "FULL: the other one would have more than 9.");
    SleepByRation x = Due.fort("F199G0090G0060G0090");
    due.watch(x);
    due.is("6 and 4", x.hand(0, 1, 4), -4);
    due.is("9 and 1", x.hand(0, 2, 1), -4);
    due.is("9 and 9", x.hand(0, 2, 9), -4);
    due.unchanged();
    due.is("6 and 3", x.hand(0, 1, 3), 9);
  }

  private static void paid() {
    EdgesTest.terms("PAID: what one owes, out of its STAMPS.");
    SleepByRation x = Due.fort("F199G0099G0094G0049");
    due.is("all that it owes by all that it has", x.pay(0, 9), 0);
    due.is("all that it owes", x.pay(1, 4), 0);
    due.is("all that it has", x.pay(2, 4), 5);
    due.are("stamps", Due.row(x, 1), 0, 5, 0);
    due.are("owed", Due.row(x, 2), 0, 0, 5);
  }

  private static void payUnknown() {
    EdgesTest.promise(10, "PAID: what it owes then. UNKNOWN;");
    SleepByRation x = Due.fort("F199G0065G0085");
    due.is("pay(0, 1)", x.pay(0, 1), 4);
    due.is("pay(1, 5)", x.pay(1, 5), 0);
    due.watch(x);
    for (int g : new int[] {-1, 2, 5, 32, EdgesTest.LEAST, EdgesTest.MOST}) due.is("pay(" + g + ", 1)", x.pay(g, 1), -1);
    due.unchanged();
  }

  private static void payBad() {
    EdgesTest.promise(10, "BAD: n (1 .. 9);");
    SleepByRation x = Due.fort("F199G0099G0099");
    due.watch(x);
    for (int n : new int[] {0, 10, -1, -9, EdgesTest.LEAST, EdgesTest.MOST}) due.is("pay(0, " + n + ")", x.pay(0, n), -2);
    due.unchanged();
    due.is("pay(0, 9)", x.pay(0, 9), 0);
    due.is("pay(1, 1)", x.pay(1, 1), 8);
  }

  private static void payLate() {
    EdgesTest.promise(10, "LATE: it has not as many, or does not owe as many.");
    SleepByRation x = Due.fort("F199G0029G0092G0000T01");
    due.watch(x);
    due.is("3 of 2 stamps", x.pay(0, 3), -3);
    due.is("3 of 2 owed", x.pay(1, 3), -3);
    due.is("neither", x.pay(2, 1), -3);
    due.unchanged();
    due.is("2 of 2 stamps", x.pay(0, 2), 7);
    due.is("2 of 2 owed", x.pay(1, 2), 0);
  }

  /** The last of 512 calls is answered like the first: "An object is used for at most 512 calls after it has been made". */
  private static void manyCalls() {
    due.says("What it is", "An object is used for at most 512 calls after it has been made;");
    SleepByRation x = Due.fort("F199G0000");
    for (int q = 0; q < 500; q++) x.quarter(0);
    // 98 behind 49, 99 (and nods) behind 50 and then behind every sixth.
    due.is("call 511, about(3)", x.about(3), 500);
    due.is("call 512, guard(0, 0)", x.guard(0, 0), 99);
    SleepByRation y = Due.fort("F110G0890");
    for (int c = 0; c < 250; c++) {
      y.quarter(1);
      y.undo();
    }
    due.is("call 511, about(3)", y.about(3), 0);
    due.is("call 512, guard(0, 0)", y.guard(0, 0), 8);
  }
}
