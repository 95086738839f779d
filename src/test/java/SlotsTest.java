/** Promises 27 and 28: what is kept and gone on from. */
public final class SlotsTest {
  private static final Due due = new Due("SlotsTest");

  public static void main(String[] args) {
    wrong();
    keepAndAgain();
    twoSlots();
    whatIsNotKept();
    due.end();
  }

  private static void wrong() {
    SleepByRation x = Due.fort("F112G0034");
    due.watch(x);
    for (int s : new int[] {-1, 2, Integer.MIN_VALUE, Integer.MAX_VALUE}) {
      due.is("keep(" + s + ")", x.keep(s), -1);
      due.is("again(" + s + ")", x.again(s), -1);
    }
    due.unchanged();
    x.quarter(0);
    due.watch(x);
    due.is("again(0) of nothing", x.again(0), -3);
    due.is("again(1) of nothing", x.again(1), -3);
    due.unchanged();
    due.is("keep(1)", x.keep(1), 1);
    due.watch(x);
    due.is("again(0), the other one was kept", x.again(0), -3);
    due.unchanged();
  }

  private static void keepAndAgain() {
    SleepByRation x = Due.fort("F205G0354G0472T01G0163");
    x.sick(2, true);
    x.plan(1, 3);
    x.quarter(3);
    x.quarter(0);
    x.quarter(4);
    x.undo();
    long[] kept = Due.look(x);
    due.is("keep(0): quarters", x.keep(0), 2);
    due.are("keeping changes nothing", Due.look(x), kept);
    x.sick(2, false);
    x.sick(1, true);
    x.hand(0, 2, 1);
    x.pay(1, 1);
    x.plan(1, 0);
    x.plan(3, 7);
    x.quarter(1);
    x.drum();
    x.quarter(0);
    due.is("again(0): quarters", x.again(0), 2);
    due.is("no acts", x.about(8), 0);
    due.is("no acts", x.undo(), -3);
    kept[8] = 0;
    due.are("as they were kept", Due.look(x), kept);
    due.is("the plan", x.plan(1, 0), 3);
    due.is("the plan", x.plan(3, 0), 0);
    due.is("it goes on", x.quarter(0) >= 0 ? x.about(3) : -1, 3);
    due.is("as often as one likes", x.again(0), 2);
    due.is("the plan, again", x.plan(1, 0), 3);
  }

  private static void twoSlots() {
    SleepByRation x = Due.fort("F199G0100");
    due.is("keep(0)", x.keep(0), 0);
    x.quarter(0);
    due.is("keep(1)", x.keep(1), 1);
    x.quarter(0);
    x.quarter(0);
    due.is("again(0)", x.again(0), 0);
    due.is("tired", x.guard(0, 0), 1);
    due.is("again(1)", x.again(1), 1);
    due.is("tired", x.guard(0, 0), 3);
    x.quarter(0);
    due.is("keep(0) anew", x.keep(0), 2);
    x.again(1);
    due.is("again(0)", x.again(0), 2);
    due.is("tired", x.guard(0, 0), 5);
  }

  private static void whatIsNotKept() {
    SleepByRation x = Due.fort("F105G0400");
    x.quarter(0);
    x.use(1, 0, 0);
    x.keep(0);
    x.use(1, 0, 0);
    Due.put(x, "G");
    x.again(0);
    due.is("blind", x.about(4), 1);
    due.is("nods", x.about(5), 1);
    due.is("the book goes on", x.about(9), 2);
    due.is("the text goes on", x.about(10), 10);
    due.is("a fortress that is refused", x.fortress(), -3);
    due.is("leaves it", x.again(0), 1);
    Due.put(x, "0000");
    due.is("a new fortress", x.fortress(), 2);
    due.is("what was kept is gone", x.again(0), -3);
    SleepByRation y = new SleepByRation();
    due.is("keep(1) of a new object", y.keep(1), 0);
    y.quarter(0);
    due.is("again(1)", y.again(1), 0);
    due.is("blind", y.about(4), 0);
  }
}
