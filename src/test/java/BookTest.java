/** Promises 22 to 26: the book of stamps, and which are forged, by whom. */
public final class BookTest {
  private static final Due due = new Due("BookTest");

  public static void main(String[] args) {
    use();
    burn();
    forged();
    forgedAt();
    forgers();
    bookOutlivesFortress();
    due.end();
  }

  private static SleepByRation fort() {
    return Due.fort("F112G0000G0000G0000G0000T12");
  }

  private static void use() {
    SleepByRation x = fort();
    due.watch(x);
    due.is("guard 4", x.use(0, 4, 0), -1);
    due.is("guard -1", x.use(0, -1, 0), -1);
    due.is("UNKNOWN is told first", x.use(100, 4, 100), -1);
    for (int n : new int[] {-1, 100, Integer.MIN_VALUE, Integer.MAX_VALUE}) {
      due.is("number " + n, x.use(n, 0, 0), -2);
      due.is("quarter " + n, x.use(0, 0, n), -2);
    }
    due.unchanged();
    due.is("use(99, 3, 99)", x.use(99, 3, 99), 1);
    due.is("use(0, 0, 0)", x.use(0, 0, 0), 2);
    for (int i = 3; i <= 12; i++) due.is("use " + i, x.use(i, 1, i), i);
    due.is("about(9)", x.about(9), 12);
    due.is("none is forged", x.forged(), 0);
    due.watch(x);
    due.is("a thirteenth", x.use(99, 3, 98), -4);
    due.unchanged();
    due.is("BAD is told ahead of FULL", x.use(100, 3, 98), -2);
    due.is("UNKNOWN is told ahead of FULL", x.use(1, 9, 98), -1);
    due.is("no act", x.about(8), 0);
    due.is("nobody at all", new SleepByRation().use(0, 0, 0), -1);
  }

  private static void burn() {
    SleepByRation x = fort();
    due.is("burn() of nothing", x.burn(), 0);
    x.use(7, 0, 1);
    x.use(7, 0, 1);
    due.is("forged()", x.forged(), 1);
    due.is("burn()", x.burn(), 2);
    due.is("about(9)", x.about(9), 0);
    due.is("forged()", x.forged(), 0);
    due.is("forgers()", x.forgers(), 0);
    due.is("use()", x.use(7, 0, 1), 1);
    due.is("what was burnt counts no more", x.forged(), 0);
  }

  private static int forgedBy(int[]... uses) {
    SleepByRation x = fort();
    for (int[] u : uses) x.use(5, u[0], u[1]);
    return x.forged();
  }

  private static void forged() {
    due.is("none", fort().forged(), 0);
    due.is("one use", forgedBy(new int[] {1, 4}), 0);
    due.is("at two quarters by one", forgedBy(new int[] {1, 4}, new int[] {1, 5}), 1);
    due.is("at two quarters by twins", forgedBy(new int[] {1, 4}, new int[] {2, 5}), 1);
    due.is("by twins at one", forgedBy(new int[] {1, 4}, new int[] {2, 4}), 0);
    due.is("by twins at one, the other way round", forgedBy(new int[] {2, 4}, new int[] {1, 4}), 0);
    due.is("by one twice", forgedBy(new int[] {0, 4}, new int[] {0, 4}), 1);
    due.is("by a twin twice", forgedBy(new int[] {1, 4}, new int[] {2, 4}, new int[] {2, 4}), 1);
    due.is("by two that are no twins", forgedBy(new int[] {0, 4}, new int[] {3, 4}), 1);
    due.is("by a twin and another one", forgedBy(new int[] {1, 4}, new int[] {0, 4}), 1);
    due.is("by twins and another one", forgedBy(new int[] {1, 4}, new int[] {2, 4}, new int[] {3, 4}), 1);
    SleepByRation x = fort();
    for (int n = 0; n < 6; n++) {
      x.use(n * 19, 0, 0);
      due.is("forged()", x.forged(), n);
      x.use(n * 19, 0, 1);
    }
    due.is("six of them", x.forged(), 6);
    SleepByRation y = fort();
    for (int n : new int[] {99, 0, 99, 0}) y.use(n, 0, 0);
    due.is("the least and the highest number", y.forged(), 2);
  }

  private static void forgedAt() {
    SleepByRation x = fort();
    int[] order = {99, 0, 50, 7};
    for (int n : order) x.use(n, 0, n);
    for (int n : order) x.use(n, 3, n);
    x.use(20, 1, 1);
    x.use(20, 2, 1);
    due.are("the least first", new long[] {x.forgedAt(0), x.forgedAt(1), x.forgedAt(2), x.forgedAt(3), x.forgedAt(4)}, 0, 7, 50, 99, -9);
    for (int i : new int[] {-1, 5, 100, Integer.MIN_VALUE, Integer.MAX_VALUE}) due.is("forgedAt(" + i + ")", x.forgedAt(i), -9);
    due.is("none", fort().forgedAt(0), -9);
  }

  private static void forgers() {
    SleepByRation x = fort();
    due.is("none", x.forgers(), 0);
    x.use(5, 1, 4);
    x.use(5, 2, 4);
    x.use(6, 0, 4);
    due.is("none is forged", x.forgers(), 0);
    x.use(6, 2, 5);
    due.is("0 and 2", x.forgers(), 5);
    x.use(5, 3, 4);
    due.is("all that used one", x.forgers(), 15);
    x.burn();
    x.use(5, 3, 4);
    x.use(5, 3, 4);
    due.is("3 alone", x.forgers(), 8);
  }

  private static void bookOutlivesFortress() {
    SleepByRation x = fort();
    x.use(5, 1, 4);
    x.use(5, 2, 4);
    x.use(8, 0, 1);
    x.use(8, 3, 1);
    due.are("ahead of it", new long[] {x.forged(), x.forgers()}, 1, 9);
    x.wipe();
    Due.put(x, "F112G0000G0000");
    x.fortress();
    due.are("twins no more, and some are gone", new long[] {x.about(9), x.forged(), x.forgedAt(0), x.forgers()}, 4, 2, 5, 3);
    Due.put(x, "G0000G0000T03");
    x.fortress();
    due.are("others are twins", new long[] {x.forged(), x.forgedAt(0), x.forgers()}, 1, 5, 6);
    x.wipe();
    Due.put(x, "F112");
    x.fortress();
    due.are("nobody", new long[] {x.forged(), x.forgers(), x.burn()}, 2, 0, 4);
  }
}
