/** The book of stamps: promises 22 to 26 and their terms. */
final class BookEdges {
  private static final Due due = EdgesTest.due;

  private BookEdges() {
  }

  static void play() {
    twelveUses();
    twoQuarters();
    noTwins();
    oneTwice();
    leastFirst();
    used();
    usedUnknown();
    usedBad();
    usedFull();
    burnt();
    forged();
    forgedAt();
    forgers();
    forgersThatAre();
  }

  /** Guards 0 to 3, of which 1 and 2 are twins; uses of number 5 as guard, quarter, guard, quarter ... */
  private static SleepByRation bookOf(int... uses) {
    SleepByRation x = Due.fort("F112G0000G0000G0000G0000T12");
    for (int u = 0; u + 1 < uses.length; u += 2) x.use(5, uses[u], uses[u + 1]);
    return x;
  }

  private static void twelveUses() {
    EdgesTest.terms("STAMPS by number (0 .. 99) that a GUARD used at a QUARTER (0 .. 99): 12 at most, none at first.");
    SleepByRation x = bookOf();
    due.is("at first", x.about(9), 0);
    due.is("0 at 0", x.use(0, 0, 0), 1);
    due.is("99 at 99", x.use(99, 0, 99), 2);
    due.is("-1 at 0", x.use(-1, 0, 0), -2);
    due.is("100 at 0", x.use(100, 0, 0), -2);
    due.is("0 at -1", x.use(0, 0, -1), -2);
    due.is("0 at 100", x.use(0, 0, 100), -2);
    for (int u = 3; u <= 12; u++) due.is("use " + u, x.use(u, 0, u), u);
    due.is("use 13", x.use(13, 0, 13), -4);
    due.is("uses", x.about(9), 12);
  }

  private static void twoQuarters() {
    EdgesTest.terms("A number is FORGED, if it was used at two QUARTERS,");
    due.is("by one", bookOf(0, 4, 0, 5).forged(), 1);
    due.is("by twins", bookOf(1, 4, 2, 5).forged(), 1);
    due.is("by others", bookOf(0, 0, 3, 99).forged(), 1);
    due.is("at two, the last of three", bookOf(1, 4, 2, 4, 1, 5).forged(), 1);
    due.is("used once", bookOf(0, 4).forged(), 0);
    SleepByRation x = bookOf(0, 4);
    x.use(6, 0, 5);
    due.is("two numbers at two quarters", x.forged(), 0);
  }

  private static void noTwins() {
    EdgesTest.terms("or at one by two that are no TWINS");
    for (int g = 0; g < 4; g++) {
      for (int h = 0; h < 4; h++) {
        if (g != h) due.is("by " + g + " and " + h, bookOf(g, 4, h, 4).forged(), g + h == 3 && g * h == 2 ? 0 : 1);
      }
    }
    due.is("by twins and another one", bookOf(1, 4, 2, 4, 3, 4).forged(), 1);
    due.is("by another one and twins", bookOf(0, 4, 1, 4, 2, 4).forged(), 1);
  }

  private static void oneTwice() {
    EdgesTest.terms("(or by one twice).");
    for (int g = 0; g < 4; g++) due.is("by " + g + " twice", bookOf(g, 4, g, 4).forged(), 1);
    due.is("by twins, by the first twice", bookOf(1, 4, 2, 4, 1, 4).forged(), 1);
    due.is("by twins, by the second twice", bookOf(1, 4, 2, 4, 2, 4).forged(), 1);
  }

  private static void leastFirst() {
    EdgesTest.terms("How many are FORGED, the i-th of them (the least first); by whom (all that used one that is FORGED).");
    SleepByRation x = bookOf(1, 7, 2, 7, 3, 7);
    x.use(99, 0, 1);
    x.use(99, 0, 1);
    x.use(0, 3, 1);
    x.use(0, 3, 2);
    x.use(50, 2, 2);
    due.is("forged()", x.forged(), 3);
    due.are("forgedAt", new long[] {x.forgedAt(0), x.forgedAt(1), x.forgedAt(2)}, 0, 5, 99);
    due.is("twins that did nothing wrong used it too", x.forgers(), 15);
    due.is("who used one that is not forged", bookOf(0, 4).forgers(), 0);
  }

  private static void used() {
    EdgesTest.promise(22, "A use: how many there are.");
    SleepByRation x = bookOf();
    for (int u = 1; u <= 12; u++) due.is("use " + u, x.use(7, 3, 7), u);
    due.is("no act", x.about(8), 0);
  }

  private static void usedUnknown() {
    EdgesTest.promise(22, "UNKNOWN: guard;");
    SleepByRation x = bookOf(0, 4);
    due.watch(x);
    for (int g : new int[] {-1, 4, 5, 32, EdgesTest.LEAST, EdgesTest.MOST}) due.is("use(5, " + g + ", 4)", x.use(5, g, 4), -1);
    due.unchanged();
    due.is("nobody", new SleepByRation().use(0, 0, 0), -1);
  }

  private static void usedBad() {
    EdgesTest.promise(22, "BAD: number, quarter;");
    SleepByRation x = bookOf(0, 4);
    due.watch(x);
    for (int n : new int[] {-1, 100, EdgesTest.LEAST, EdgesTest.MOST}) {
      due.is("use(" + n + ", 0, 4)", x.use(n, 0, 4), -2);
      due.is("use(5, 0, " + n + ")", x.use(5, 0, n), -2);
    }
    due.unchanged();
  }

  private static void usedFull() {
    EdgesTest.promise(22, "FULL: 12.");
    SleepByRation x = bookOf();
    for (int u = 0; u < 11; u++) x.use(u, 0, u);
    due.is("the twelfth", x.use(11, 0, 11), 12);
    due.watch(x);
    due.is("a thirteenth", x.use(0, 1, 1), -4);
    due.unchanged();
    due.is("burn()", x.burn(), 12);
    due.is("then there is room", x.use(0, 1, 1), 1);
  }

  private static void burnt() {
    EdgesTest.promise(23, "THE BOOK is empty: how many uses it had.");
    SleepByRation x = bookOf();
    due.is("of nothing", x.burn(), 0);
    for (int n = 1; n <= 12; n++) {
      for (int u = 0; u < n; u++) x.use(7, 0, 7);
      due.is("of " + n, x.burn(), n);
      due.are("uses, forged, by whom", new long[] {x.about(9), x.forged(), x.forgedAt(0), x.forgers()}, 0, 0, -9, 0);
    }
    x.use(7, 0, 7);
    due.is("what was burnt counts no more", x.forged(), 0);
  }

  private static void forged() {
    EdgesTest.promise(24, "How many numbers are FORGED.");
    SleepByRation x = bookOf();
    due.is("none", x.forged(), 0);
    int[] numbers = {99, 0, 50, 1, 98, 49};
    for (int n = 0; n < 6; n++) {
      x.use(numbers[n], 0, 0);
      due.is("once", x.forged(), n);
      x.use(numbers[n], 0, 0);
      due.is("twice", x.forged(), n + 1);
    }
    SleepByRation y = bookOf();
    for (int u = 0; u < 12; u++) y.use(8, 0, u);
    due.is("one number, however often", y.forged(), 1);
  }

  private static void forgedAt() {
    EdgesTest.promise(25, "The i-th of them (from 0); NONE: there are not so many.");
    SleepByRation x = bookOf();
    due.is("none", x.forgedAt(0), -9);
    int[] numbers = {99, 0, 50, 1, 98, 49};
    for (int n : numbers) x.use(n, 0, 0);
    for (int n : numbers) x.use(n, 0, 0);
    long[] got = new long[6];
    for (int i = 0; i < 6; i++) got[i] = x.forgedAt(i);
    due.are("six", got, 0, 1, 49, 50, 98, 99);
    for (int i : new int[] {6, 7, 99, -1, -6, EdgesTest.LEAST, EdgesTest.MOST}) due.is("forgedAt(" + i + ")", x.forgedAt(i), -9);
  }

  private static void forgers() {
    EdgesTest.promise(26, "Who used some that is FORGED, as bits");
    due.is("none", bookOf().forgers(), 0);
    due.is("twins", bookOf(1, 4, 2, 4).forgers(), 0);
    for (int g = 0; g < 4; g++) due.is("by " + g, bookOf(g, 4, g, 5).forgers(), 1 << g);
    due.is("by all", bookOf(0, 4, 1, 4, 2, 4, 3, 4).forgers(), 15);
  }

  private static void forgersThatAre() {
    EdgesTest.promise(26, "(of GUARDS that there are).");
    SleepByRation x = bookOf(0, 4, 1, 4, 2, 4, 3, 4);
    int[] all = {0, 1, 3, 7, 15, 15};
    for (int n = 5; n >= 0; n--) {
      Due.anew(x, "F112" + "G0000".repeat(n));
      due.is(n + " guards", x.forgers(), all[n]);
      due.is("the number is forged all the same", x.forged(), 1);
    }
  }
}
