/** Promises 1 to 10: the text, the fortress, what is told of it, the sick, stamps handed on and paid. */
public final class FortressTest {
  private static final Due due = new Due("FortressTest");

  public static void main(String[] args) {
    newObject();
    write();
    wipe();
    faultOfHead();
    faultOfGuards();
    faultOfTwins();
    fortress();
    fortressAnew();
    about();
    guard();
    sick();
    hand();
    pay();
    due.end();
  }

  private static void newObject() {
    SleepByRation x = new SleepByRation();
    int[] want = {0, 0, 1, 0, 0, 0, 0, 0, 0, 0, 0};
    for (int w = 0; w <= 10; w++) due.is("new about(" + w + ")", x.about(w), want[w]);
    for (int g = -1; g <= 5; g++) due.is("new guard(" + g + ", 0)", x.guard(g, 0), -1);
    due.is("new may(0)", x.may(0), 1);
    due.is("new may(1)", x.may(1), -2);
    due.is("new undo()", x.undo(), -3);
    due.is("new again(0)", x.again(0), -3);
    due.is("new again(1)", x.again(1), -3);
    due.is("new plan(3, 0)", x.plan(3, 0), 0);
    due.is("new forged()", x.forged(), 0);
    due.is("new burn()", x.burn(), 0);
  }

  private static void write() {
    SleepByRation x = new SleepByRation();
    due.watch(x);
    due.is("write(0, ..)", x.write(0, 70), -2);
    due.is("write(-1, ..)", x.write(-1, 70), -2);
    due.is("write(9, ..)", x.write(9, 70), -2);
    due.is("write(least, ..)", x.write(Integer.MIN_VALUE, 70), -2);
    due.is("write(most, ..)", x.write(Integer.MAX_VALUE, 70), -2);
    due.unchanged();
    // "XYF104" in the lowest six bytes: of four of them the highest comes first.
    due.is("write(4, XYF104)", x.write(4, 0x585946313034L), 4);
    due.is("fault() of F104", x.fault(), -9);
    due.is("write(1, G)", x.write(1, 'G'), 5);
    due.is("write(8, 1234G567)", x.write(8, 0x3132333447353637L), 13);
    due.is("fault() of F104G1234G567", x.fault(), 13);
    due.is("write(2, ..8)", x.write(1, 0x7700L + '8'), 14);
    due.is("fortress()", x.fortress(), 2);
    due.are("guards by write", new long[] {x.guard(0, 0), x.guard(0, 1), x.guard(0, 2), x.guard(1, 0), x.guard(1, 1), x.guard(1, 2)},
        12, 3, 4, 56, 7, 8);
    SleepByRation y = new SleepByRation();
    due.is("write(8, less than 0)", y.write(8, Long.MIN_VALUE), 8);
    due.is("fault() of byte 128", y.fault(), 0);
    for (int i = 2; i <= 5; i++) due.is("write(8) up to " + 8 * i, y.write(8, -1L), 8 * i);
    due.is("write(7, ..)", y.write(7, 0), 47);
    due.watch(y);
    due.is("write(2) at 47", y.write(2, 0), -4);
    due.is("write(8) at 47", y.write(8, 0), -4);
    due.unchanged();
    due.is("write(9) at 47: BAD is told first", y.write(9, 0), -2);
    due.is("write(1) at 47", y.write(1, 0), 48);
    due.watch(y);
    due.is("write(1) at 48", y.write(1, 0), -4);
    due.unchanged();
    due.is("write(0) at 48", y.write(0, 0), -2);
  }

  private static void wipe() {
    SleepByRation x = Due.fort("F212G0512");
    due.is("wipe() of 9", x.wipe(), 9);
    due.is("wipe() of 0", x.wipe(), 0);
    due.is("about(10) of 0", x.about(10), 0);
    due.is("fault() of 0", x.fault(), 0);
    due.is("the fortress stays", x.guard(0, 0), 5);
    Due.put(x, "F");
    due.is("about(10) of F", x.about(10), 1);
  }

  private static void faultOfHead() {
    String[] good = {"F001", "F010", "F099", "F501", "F590", "F310"};
    for (String g : good) {
      due.is("fault of " + g, Due.faultOf(g), -9);
      for (int n = 0; n < g.length(); n++) due.is("fault of " + g.substring(0, n), Due.faultOf(g.substring(0, n)), n);
    }
    String[] bad = {"G", "f", "0", "F6", "F/", "FF", "F1/", "F1:", "F1G", "F100", "F10/", "F10:", "F11/", "F19:", "F1000", "F104F",
        "F104 ", "F1044", "F104g", "F104H", "F104U"};
    int[] at = {0, 0, 0, 1, 1, 1, 2, 2, 2, 3, 3, 3, 3, 3, 3, 4, 4, 4, 4, 4, 4};
    for (int i = 0; i < bad.length; i++) {
      due.is("fault of " + bad[i], Due.faultOf(bad[i]), at[i]);
      due.is("fault of " + bad[i] + " and more", Due.faultOf(bad[i] + "F104G0000"), at[i]);
    }
    due.is("fault of a high byte", Due.faultOf("F1" + (char) (128 + '0') + "4"), 2);
    due.is("fault of byte 0", Due.faultOf("F104" + (char) 0), 4);
    due.is("fault of a high G", Due.faultOf("F104" + (char) (128 + 'G') + "0000"), 4);
  }

  private static void faultOfGuards() {
    String five = "F104G0000G9999G0190G1009G5555";
    due.is("fault of five guards", Due.faultOf(five), -9);
    for (int n = 4; n < five.length(); n++) due.is("fault of a part of five guards, " + n, Due.faultOf(five.substring(0, n)), (n - 4) % 5 == 0 ? -9 : n);
    due.is("fault of a sixth guard", Due.faultOf(five + "G0000"), 29);
    due.is("fault of a sixth G", Due.faultOf(five + "G"), 29);
    for (int n = 5; n < 9; n++) {
      String head = "F104G0000".substring(0, n);
      due.is("fault of " + head + "/", Due.faultOf(head + "/0000"), n);
      due.is("fault of " + head + ":", Due.faultOf(head + ":0000"), n);
      due.is("fault of " + head + "G", Due.faultOf(head + "G0000"), n);
    }
  }

  private static void faultOfTwins() {
    String two = "F104G0000G0000";
    String four = two + "G0000G0000";
    String[] good = {two + "T01", two + "T10", two + "T01G0000", four + "T31T20", four + "T02T13G0000", four + "T12", two + "T01G0000G0000T32"};
    for (String g : good) due.is("fault of " + g, Due.faultOf(g), -9);
    due.is("T without guards", Due.faultOf("F104T"), 4);
    due.is("T with one guard", Due.faultOf("F104G0000T"), 9);
    due.is("T not at its end", Due.faultOf(two + "T"), 15);
    due.is("T1 not at its end", Due.faultOf(two + "T1"), 16);
    due.is("T2 of two", Due.faultOf(two + "T2"), 15);
    due.is("T5 of two", Due.faultOf(two + "T5"), 15);
    due.is("T/ of two", Due.faultOf(two + "T/"), 15);
    due.is("T: of two", Due.faultOf(two + "T:"), 15);
    due.is("TG of two", Due.faultOf(two + "TG"), 15);
    due.is("T00", Due.faultOf(two + "T00"), 16);
    due.is("T11", Due.faultOf(two + "T11"), 16);
    due.is("T02 of two", Due.faultOf(two + "T02"), 16);
    due.is("T0T", Due.faultOf(two + "T0T"), 16);
    due.is("told so already, none left", Due.faultOf(two + "T01T"), 17);
    due.is("told so already, one left", Due.faultOf(two + "G0000T01T"), 22);
    due.is("told so already, first", Due.faultOf(four + "T01T1"), 28);
    due.is("told so already, second", Due.faultOf(four + "T01T20"), 29);
    due.is("told so already, not at its end", Due.faultOf(four + "T01T2"), 29);
    due.is("told behind it", Due.faultOf(two + "T02G0000"), 16);
    due.is("T of five, two pairs", Due.faultOf(four + "G0000T01T23T"), 35);
    // 48 bytes that would go on: the length is set aside.
    due.is("48 bytes", Due.faultOf("F104G0000G0000T01G0000G0000T23G0000G" + "000000000000"), 35);
  }

  private static void fortress() {
    SleepByRation x = new SleepByRation();
    due.watch(x);
    due.is("fortress() of nothing", x.fortress(), -3);
    due.unchanged();
    Due.put(x, "F309G1234");
    due.is("fortress()", x.fortress(), 1);
    due.is("the text stays", x.about(10), 9);
    x.quarter(1);
    x.plan(0, 1);
    x.keep(0);
    Due.put(x, "G");
    due.watch(x);
    due.is("fortress() not at its end", x.fortress(), -3);
    due.unchanged();
    due.is("a refused one keeps the slots", x.again(0), 1);
    Due.put(x, "/");
    due.watch(x);
    due.is("fortress() of a fault", x.fortress(), -3);
    due.unchanged();
    due.is("a refused one keeps the plan", x.plan(0, 1), 1);
    SleepByRation y = Due.fort("F512");
    due.is("no guards", y.about(0), 0);
    due.is("beds", y.about(1), 5);
    due.is("limit", y.about(2), 12);
    SleepByRation z = Due.fort("F099G0123G4567G8901G2345G6789");
    due.is("guards", z.about(0), 5);
    due.are("told", new long[] {z.guard(0, 0), z.guard(0, 1), z.guard(0, 2), z.guard(2, 0), z.guard(2, 1), z.guard(2, 2),
        z.guard(4, 0), z.guard(4, 1), z.guard(4, 2)}, 1, 2, 3, 89, 0, 1, 67, 8, 9);
  }

  private static void fortressAnew() {
    SleepByRation x = Due.fort("F203G0590G0590T01");
    x.sick(1, true);
    x.quarter(0);
    x.quarter(1);
    x.drum();
    x.plan(0, 1);
    x.plan(3, 2);
    x.keep(0);
    x.keep(1);
    x.use(4, 1, 2);
    x.wipe();
    Due.put(x, "F105G0711G0822G0933");
    due.is("fortress() anew", x.fortress(), 3);
    due.are("about anew", new long[] {x.about(0), x.about(1), x.about(2), x.about(3), x.about(4), x.about(5), x.about(6), x.about(7), x.about(8),
        x.about(9), x.about(10)}, 3, 1, 5, 0, 0, 0, 0, 24, 0, 1, 19);
    for (int g = 0; g < 3; g++) {
      due.are("guard anew " + g, new long[] {x.guard(g, 0), x.guard(g, 1), x.guard(g, 2), x.guard(g, 3), x.guard(g, 4), x.guard(g, 5), x.guard(g, 6)},
          7 + g, 1 + g, 1 + g, 0, 0, -9, 0);
    }
    due.is("no acts", x.undo(), -3);
    due.is("kept 0 is gone", x.again(0), -3);
    due.is("kept 1 is gone", x.again(1), -3);
    for (int i = 0; i < 4; i++) due.is("plan " + i, x.plan(i, 0), 0);
    due.is("a rota of the new one", x.rota(1), -9);
    due.is("fortress() once more", x.fortress(), 3);
  }

  private static void about() {
    SleepByRation x = Due.fort("F208G0731G0942T01G0120");
    x.quarter(3);
    x.sick(2, true);
    x.quarter(4);
    x.drum();
    x.use(1, 1, 1);
    x.quarter(0);
    // Behind 3: 3 5 3; behind 4: 5 7 0; a drum for nobody; behind 0: 7 9 (nods) 2.
    due.are("about", new long[] {x.about(0), x.about(1), x.about(2), x.about(3), x.about(4), x.about(5), x.about(6), x.about(7), x.about(8),
        x.about(9), x.about(10)}, 3, 2, 8, 3, 0, 2, 4, 18, 4, 1, 22);
    x.quarter(3);
    // Both in bed; the sick one watches: 3 5 4.
    due.is("awake, not blind", x.about(4), 0);
    x.quarter(4);
    due.is("about(7)", x.about(7), 12);
    due.watch(x);
    for (int w : new int[] {-1, 11, 12, Integer.MAX_VALUE, Integer.MIN_VALUE}) {
      due.is("about(" + w + ")", x.about(w), -2);
    }
    due.unchanged();
    SleepByRation y = Due.fort("F105G0500");
    y.quarter(0);
    y.quarter(0);
    due.is("blind twice", y.about(4), 2);
    due.is("quarters", y.about(3), 2);
    due.is("who nods", y.about(5), 1);
  }

  private static void guard() {
    SleepByRation x = Due.fort("F208G0731G0942G0120T20");
    x.quarter(5);
    x.sick(1, true);
    x.quarter(3);
    due.are("guard 0", new long[] {x.guard(0, 0), x.guard(0, 1), x.guard(0, 2), x.guard(0, 3), x.guard(0, 4), x.guard(0, 5), x.guard(0, 6)},
        0, 1, 1, 0, 0, 2, 2);
    due.are("guard 1", new long[] {x.guard(1, 0), x.guard(1, 1), x.guard(1, 2), x.guard(1, 3), x.guard(1, 4), x.guard(1, 5), x.guard(1, 6)},
        7, 4, 3, 0, 1, -9, 1);
    due.are("guard 2", new long[] {x.guard(2, 0), x.guard(2, 1), x.guard(2, 2), x.guard(2, 3), x.guard(2, 4), x.guard(2, 5), x.guard(2, 6)},
        2, 2, 0, 0, 0, 0, 1);
    due.is("nods", nodding().guard(0, 3), 1);
    for (int g : new int[] {-1, 3, 5, Integer.MIN_VALUE, Integer.MAX_VALUE}) {
      due.is("guard(" + g + ", 0)", x.guard(g, 0), -1);
      due.is("guard(" + g + ", 7): UNKNOWN is told first", x.guard(g, 7), -1);
    }
    for (int w : new int[] {-1, 7, Integer.MIN_VALUE, Integer.MAX_VALUE}) due.is("guard(0, " + w + ")", x.guard(0, w), -2);
  }

  private static SleepByRation nodding() {
    SleepByRation x = Due.fort("F105G0400");
    x.quarter(0);
    return x;
  }

  private static void sick() {
    SleepByRation x = Due.fort("F208G0731G0942");
    due.is("sick(1, true)", x.sick(1, true), 1);
    due.is("sick(1, true) again", x.sick(1, true), 0);
    due.is("who is sick", x.about(6), 2);
    due.is("sick(0, false)", x.sick(0, false), 0);
    due.is("sick(0, true)", x.sick(0, true), 1);
    due.is("who is sick", x.about(6), 3);
    due.is("sick(1, false)", x.sick(1, false), 1);
    due.is("sick(1, false) again", x.sick(1, false), 0);
    due.is("who is sick", x.about(6), 1);
    due.is("no act", x.about(8), 0);
    due.watch(x);
    for (int g : new int[] {-1, 2, 32, Integer.MIN_VALUE, Integer.MAX_VALUE}) {
      due.is("sick(" + g + ", true)", x.sick(g, true), -1);
      due.is("sick(" + g + ", false)", x.sick(g, false), -1);
    }
    due.unchanged();
  }

  private static void hand() {
    SleepByRation x = Due.fort("F208G0750G0942");
    due.is("hand(0, 1, 3)", x.hand(0, 1, 3), 7);
    due.is("left", x.guard(0, 1), 2);
    due.is("hand(0, 1, 2)", x.hand(0, 1, 2), 9);
    due.is("none left", x.guard(0, 1), 0);
    due.is("hand(1, 0, 9)", x.hand(1, 0, 9), 9);
    due.is("all of them", x.guard(1, 1), 0);
    due.is("no act", x.about(8), 0);
    due.watch(x);
    due.is("hand(1, 0, 1): LATE is told ahead of FULL", x.hand(1, 0, 1), -3);
    due.unchanged();
    x.hand(0, 1, 4);
    due.watch(x);
    due.is("it has not as many", x.hand(0, 1, 6), -3);
    due.unchanged();
    SleepByRation y = Due.fort("F208G0750G0962");
    due.watch(y);
    due.is("more than 9", y.hand(0, 1, 4), -4);
    due.is("hand(0, 0, 1)", y.hand(0, 0, 1), -2);
    due.is("hand(0, 1, 0)", y.hand(0, 1, 0), -2);
    due.is("hand(0, 1, 10)", y.hand(0, 1, 10), -2);
    due.is("hand(0, 1, -1)", y.hand(0, 1, -1), -2);
    due.is("hand(0, 1, least)", y.hand(0, 1, Integer.MIN_VALUE), -2);
    due.is("hand(0, 1, most)", y.hand(0, 1, Integer.MAX_VALUE), -2);
    due.is("hand(0, 2, 0): UNKNOWN is told first", y.hand(0, 2, 0), -1);
    due.is("hand(2, 0, 1)", y.hand(2, 0, 1), -1);
    due.is("hand(-1, 0, 1)", y.hand(-1, 0, 1), -1);
    due.is("hand(0, -1, 1)", y.hand(0, -1, 1), -1);
    due.is("hand(5, 5, 1)", y.hand(5, 5, 1), -1);
    due.unchanged();
  }

  private static void pay() {
    SleepByRation x = Due.fort("F208G0753G0925G0099");
    due.is("pay(0, 2)", x.pay(0, 2), 1);
    due.is("stamps left", x.guard(0, 1), 3);
    due.is("owed", x.guard(0, 2), 1);
    due.watch(x);
    due.is("does not owe as many", x.pay(0, 2), -3);
    due.is("has not as many", x.pay(1, 3), -3);
    due.unchanged();
    due.is("pay(1, 2)", x.pay(1, 2), 3);
    due.is("pay(0, 1)", x.pay(0, 1), 0);
    due.is("pay(2, 9)", x.pay(2, 9), 0);
    due.is("no act", x.about(8), 0);
    due.watch(x);
    due.is("pay(0, 0)", x.pay(0, 0), -2);
    due.is("pay(0, 10)", x.pay(0, 10), -2);
    due.is("pay(0, least)", x.pay(0, Integer.MIN_VALUE), -2);
    due.is("pay(3, 0): UNKNOWN is told first", x.pay(3, 0), -1);
    due.is("pay(-1, 1)", x.pay(-1, 1), -1);
    due.unchanged();
  }
}
