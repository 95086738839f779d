/** The text, its fault and the fortress: the first part of the terms, and promises 1 to 5. */
final class TextEdges {
  private static final Due due = EdgesTest.due;
  private static final String FIVE = "F199G0000G0000G0000G0000G0000";
  private static final String WHOLE = FIVE + "T01T23";

  private TextEdges() {
  }

  static void play() {
    fiveGuards();
    fortyEightBytes();
    head();
    beds();
    limit();
    parts();
    numbered();
    tired();
    stamps();
    owes();
    twinsUnlike();
    twinsAhead();
    twinsOnce();
    faultFirst();
    faultLength();
    faultEnd();
    faultNone();
    atFirst();
    nobodyAtFirst();
    newObject();
    written();
    writtenOrder();
    writtenBad();
    writtenFull();
    wiped();
    faulted();
    fortressKeeps();
    fortressCounts();
    fortressLate();
  }

  private static void fiveGuards() {
    EdgesTest.terms("(5 at most), sets of them bits.");
    SleepByRation x = Due.fort(FIVE);
    due.is("about(0)", x.about(0), 5);
    due.is("guard(4, 0)", x.guard(4, 0), 0);
    due.is("guard(5, 0)", x.guard(5, 0), -1);
    due.is("a sixth", Due.faultOf(FIVE + "G0000"), 29);
    due.is("a sixth behind twins", Due.faultOf(WHOLE + "G0000"), 35);
    for (int g = 0; g < 5; g++) {
      x.sick(g, true);
      due.is("the bit of " + g, x.about(6), 1 << g);
      x.sick(g, false);
    }
    due.is("all five, may(31)", x.may(31), 0);
    due.is("no sixth, may(32)", x.may(32), -2);
  }

  private static void fortyEightBytes() {
    EdgesTest.terms("THE TEXT is bytes (48 at most).");
    SleepByRation x = new SleepByRation();
    for (int n = 1; n <= 48; n++) due.is("byte " + n, x.write(1, n * 37), n);
    due.is("byte 49", x.write(1, 0), -4);
    due.is("about(10)", x.about(10), 48);
    for (int b = 0; b < 256; b++) due.is("any byte at first, " + b, Due.faultOf("" + (char) b), b == 'F' ? 1 : 0);
  }

  private static void head() {
    EdgesTest.terms("A FORTRESS is a TEXT: F,");
    for (char c : new char[] {'E', 'G', 'f', '0', 'T', 0, 255}) due.is("fault of " + (int) c, Due.faultOf(c + "199"), 0);
    due.is("fault of F199", Due.faultOf("F199"), -9);
  }

  private static void beds() {
    EdgesTest.terms("BEDS (0 .. 5),");
    for (int b = 0; b <= 5; b++) due.is("beds " + b, Due.fort("F" + b + "99").about(1), b);
    for (char c : new char[] {'/', '6', '9', ':', 'F', 'G'}) due.is("fault of F" + c, Due.faultOf("F" + c + "99"), 1);
  }

  private static void limit() {
    EdgesTest.terms("LIMIT (two figures, 01 .. 99),");
    for (int t = 1; t <= 99; t++) due.is("limit " + t, Due.fort("F0" + t / 10 + t % 10).about(2), t);
    due.is("00", Due.faultOf("F000"), 3);
    due.is("0, then more", Due.faultOf("F00"), 3);
    due.is("one figure", Due.faultOf("F09"), 3);
    due.is("one figure and a part", Due.faultOf("F09G0000"), 3);
    due.is("three figures", Due.faultOf("F0999"), 4);
    due.is("/9", Due.faultOf("F0/9"), 2);
    due.is(":9", Due.faultOf("F0:9"), 2);
    due.is("9/", Due.faultOf("F09/"), 3);
    due.is("9:", Due.faultOf("F09:"), 3);
  }

  private static void parts() {
    EdgesTest.terms("then PARTS, none or more,");
    SleepByRation none = new SleepByRation();
    Due.put(none, "F199");
    due.is("none", none.fortress(), 0);
    due.are("seven, the last of them twins", Due.row(Due.fort(WHOLE), 5), 1, 0, 3, 2, -9);
    due.are("seven in another order", Due.row(Due.fort("F199G0000G0000T10G0000G0000T32G0000"), 5), 1, 0, 3, 2, -9);
    for (char c : new char[] {'F', 'H', 'S', 'U', 'g', 't', '0', ' ', 0, 'G' + 128, 'T' + 128}) {
      due.is("no part begins with " + (int) c, Due.faultOf("F199G0000G0000" + c), 14);
    }
  }

  private static void numbered() {
    EdgesTest.terms("GUARDS numbered as they are told:");
    due.are("tired", Due.row(Due.fort("F199G1100G2200T01G3300G4400T23G5500"), 0), 11, 22, 33, 44, 55);
  }

  private static void tired() {
    EdgesTest.terms("a GUARD that is TIRED by tt (00 .. 99),");
    for (int t = 0; t <= 99; t++) due.is("tired " + t, Due.fort("F199G" + t / 10 + t % 10 + "00").guard(0, 0), t);
    for (char c : new char[] {'/', ':', 'G', 'T', '0' + 128}) {
      due.is("tens " + c, Due.faultOf("F199G" + c + "000"), 5);
      due.is("ones " + c, Due.faultOf("F199G0" + c + "00"), 6);
    }
    due.is("one figure", Due.faultOf("F199G0"), 6);
  }

  private static void stamps() {
    EdgesTest.terms("has s STAMPS (0 .. 9),");
    for (int s = 0; s <= 9; s++) due.is("stamps " + s, Due.fort("F199G00" + s + "0").guard(0, 1), s);
    for (char c : new char[] {'/', ':', 'G'}) due.is("stamps " + c, Due.faultOf("F199G00" + c + "0"), 7);
  }

  private static void owes() {
    EdgesTest.terms("owes d (0 .. 9)");
    for (int d = 0; d <= 9; d++) due.is("owes " + d, Due.fort("F199G000" + d).guard(0, 2), d);
    for (char c : new char[] {'/', ':', 'G'}) due.is("owes " + c, Due.faultOf("F199G000" + c), 8);
  }

  private static void twinsUnlike() {
    EdgesTest.terms("GUARDS i, j (unlike,");
    for (int i = 0; i < 5; i++) {
      for (int j = 0; j < 5; j++) {
        String text = FIVE + "T" + i + j;
        due.is("fault of T" + i + j, Due.faultOf(text), i == j ? 31 : -9);
        if (i == j) continue;
        SleepByRation x = Due.fort(text);
        due.is("T" + i + j + ", the twin of " + i, x.guard(i, 5), j);
        due.is("T" + i + j + ", the twin of " + j, x.guard(j, 5), i);
      }
    }
  }

  private static void twinsAhead() {
    EdgesTest.terms("both told ahead of it,");
    due.is("i is not told", Due.faultOf("F199G0000G0000T2"), 15);
    due.is("i is told behind it", Due.faultOf("F199G0000G0000T20G0000"), 15);
    due.is("j is not told", Due.faultOf("F199G0000G0000T12"), 16);
    due.is("j is told behind it", Due.faultOf("F199G0000G0000T12G0000"), 16);
    due.is("both are told", Due.faultOf("F199G0000G0000G0000T12"), -9);
    for (char c : new char[] {'5', '9', '/', ':', 'T'}) due.is("T" + c + " of five", Due.faultOf(FIVE + "T" + c), 30);
    for (char c : new char[] {'5', '9', '/', ':', 'T'}) due.is("T4" + c + " of five", Due.faultOf(FIVE + "T4" + c), 31);
  }

  private static void twinsOnce() {
    EdgesTest.terms("neither told so) are TWINS");
    for (int g = 0; g < 2; g++) {
      due.is("i is told so, " + g, Due.faultOf(FIVE + "T01T" + g + "2"), 33);
      due.is("j is told so, " + g, Due.faultOf(FIVE + "T01T2" + g), 34);
    }
    due.is("the same told twice", Due.faultOf(FIVE + "T01T10"), 33);
    due.is("two pairs", Due.faultOf(FIVE + "T01T42"), -9);
  }

  private static void faultFirst() {
    EdgesTest.terms("FAULT: the place of the first byte by which THE TEXT can be no FORTRESS, whatever came behind it");
    due.is("two faults, the first", Due.faultOf("F6/"), 1);
    due.is("a fault and a whole one behind it", Due.faultOf("GF199"), 0);
    due.is("no limit can be 00", Due.faultOf("F100G0000"), 3);
    due.is("T, nobody is told", Due.faultOf("F199T"), 4);
    due.is("T, one is told", Due.faultOf("F199G0000T"), 9);
    due.is("T, two are told", Due.faultOf("F199G0000G0000T"), 15);
    due.is("T, both are told so", Due.faultOf("F199G0000G0000T01T"), 17);
    due.is("T, one is left", Due.faultOf("F199G0000G0000G0000T01T"), 22);
    due.is("T, two are left", Due.faultOf("F199G0000G0000G0000G0000T01T"), 28);
    due.is("T of five, one is left", Due.faultOf(WHOLE + "T"), 35);
    due.is("G of five", Due.faultOf(FIVE + "G"), 29);
    due.is("G of four", Due.faultOf("F199G0000G0000G0000G0000G"), 25);
  }

  private static void faultLength() {
    EdgesTest.terms("(its length set aside);");
    due.is("35 bytes", Due.faultOf(WHOLE), -9);
    due.is("48 bytes", Due.faultOf(WHOLE + "G000000000000"), 35);
    due.is("48 bytes with a fault ahead", Due.faultOf("F199G0000G0000G00/0" + "G0000".repeat(5) + "T01T"), 17);
  }

  private static void faultEnd() {
    EdgesTest.terms("its length, if it is only not at its end;");
    for (int n = 0; n < WHOLE.length(); n++) {
      boolean end = n >= 4 && n <= 29 && (n - 4) % 5 == 0 || n == 32;
      due.is("the first " + n, Due.faultOf(WHOLE.substring(0, n)), end ? -9 : n);
    }
  }

  private static void faultNone() {
    EdgesTest.terms("NONE: none.");
    due.is("F001", Due.faultOf("F001"), -9);
    due.is("F599", Due.faultOf("F599G9999"), -9);
    due.is("whole", Due.faultOf(WHOLE), -9);
  }

  private static void atFirst() {
    EdgesTest.terms("At first there are no GUARDS, no BEDS, LIMIT is 1.");
    SleepByRation x = new SleepByRation();
    due.are("about(0 .. 2)", new long[] {x.about(0), x.about(1), x.about(2)}, 0, 0, 1);
    due.is("no set of guards but the empty one", x.may(1), -2);
    due.is("the empty one", x.may(0), 1);
  }

  private static void nobodyAtFirst() {
    EdgesTest.terms("Nobody NODS at first, nobody is SICK; QUARTERS are 0.");
    SleepByRation x = Due.fort("F101G9900G0100");
    due.are("about(3 .. 6)", new long[] {x.about(3), x.about(4), x.about(5), x.about(6)}, 0, 0, 0, 0);
    x.sick(1, true);
    Due.quarters(x, 0, 0);
    due.are("all nod, one is sick", new long[] {x.about(3), x.about(4), x.about(5), x.about(6)}, 2, 2, 3, 2);
    due.is("the same text once more", x.fortress(), 2);
    due.are("about(3 .. 6) anew", new long[] {x.about(3), x.about(4), x.about(5), x.about(6)}, 0, 0, 0, 0);
    due.are("how often in bed", Due.row(x, 6), 0, 0);
    SleepByRation y = new SleepByRation();
    due.are("about(3 .. 6) of a new object", new long[] {y.about(3), y.about(4), y.about(5), y.about(6)}, 0, 0, 0, 0);
  }

  private static void newObject() {
    EdgesTest.promise(1, "No GUARDS.");
    SleepByRation x = new SleepByRation();
    due.is("about(0)", x.about(0), 0);
    for (int g = 0; g < 5; g++) due.is("guard(" + g + ", 0)", x.guard(g, 0), -1);
    int[] zero = {3, 4, 5, 6, 7, 8, 9, 10};
    for (int w : zero) due.is("about(" + w + ")", x.about(w), 0);
  }

  private static void written() {
    EdgesTest.promise(2, "n bytes (1 .. 8) of v,");
    for (int n = 1; n <= 8; n++) {
      SleepByRation x = new SleepByRation();
      due.is("write(" + n + ", ..)", x.write(n, -1L), n);
      due.is("write(" + n + ", ..) once more", x.write(n, 0), 2 * n);
    }
  }

  private static void writtenOrder() {
    EdgesTest.promise(2, "the lowest n, the highest of these first, come behind THE TEXT: how long it is.");
    SleepByRation x = new SleepByRation();
    due.is("write(1, ..F)", x.write(1, 0x4747474747474746L), 1);
    due.is("write(3, ..312)", x.write(3, 0xFFFFFFFFFF333132L), 4);
    due.is("write(8, G1234G56)", x.write(8, 0x4731323334473536L), 12);
    due.is("write(2, ..78)", x.write(2, Long.MIN_VALUE + 0x3738), 14);
    due.is("fortress()", x.fortress(), 2);
    due.are("beds, limit", new long[] {x.about(1), x.about(2)}, 3, 12);
    due.are("tired", Due.row(x, 0), 12, 56);
    due.are("stamps", Due.row(x, 1), 3, 7);
    due.are("owed", Due.row(x, 2), 4, 8);
    SleepByRation y = new SleepByRation();
    y.write(4, 0x46313031L);
    due.is("write(8, the highest bit)", y.write(8, Long.MIN_VALUE), 12);
    due.is("fault()", y.fault(), 4);
  }

  private static void writtenBad() {
    EdgesTest.promise(2, "BAD;");
    SleepByRation x = Due.fort("F199G0000");
    due.watch(x);
    for (int n : new int[] {0, 9, -1, -8, 16, EdgesTest.LEAST, EdgesTest.MOST}) due.is("write(" + n + ", ..)", x.write(n, 'G'), -2);
    due.unchanged();
  }

  private static void writtenFull() {
    EdgesTest.promise(2, "FULL: it would be longer than 48 (nothing comes).");
    for (int n = 1; n <= 8; n++) {
      SleepByRation x = Due.fort(WHOLE);
      for (int at = 35; at < 49 - n; at++) x.write(1, 'G');
      due.watch(x);
      due.is("write(" + n + ") at " + (49 - n), x.write(n, 0), -4);
      due.unchanged();
      if (n > 1) due.is("one less", x.write(n - 1, 0), 48);
      due.is("write(1) at 48", x.write(1, 0), -4);
      due.is("about(10)", x.about(10), 48);
      due.is("fault()", x.fault(), 35);
    }
  }

  private static void wiped() {
    EdgesTest.promise(3, "THE TEXT is empty: how long it was.");
    SleepByRation x = Due.fort(WHOLE);
    for (int n = 36; n <= 48; n++) x.write(1, 0);
    due.is("wipe() of 48", x.wipe(), 48);
    due.is("about(10)", x.about(10), 0);
    due.is("fault()", x.fault(), 0);
    due.is("wipe() of nothing", x.wipe(), 0);
    due.is("the fortress stays", x.about(0), 5);
    due.is("48 come again", x.write(8, 0), 8);
    for (int n = 2; n <= 6; n++) due.is("48 come again", x.write(8, 0), 8 * n);
    due.is("wipe() of 48", x.wipe(), 48);
    Due.put(x, "F102");
    due.is("nothing is left of what was", x.fault(), -9);
    due.is("fortress()", x.fortress(), 0);
  }

  private static void faulted() {
    EdgesTest.promise(4, "FAULT; NONE.");
    SleepByRation x = new SleepByRation();
    due.is("of nothing", x.fault(), 0);
    Due.put(x, "F10");
    due.is("of F10", x.fault(), 3);
    Due.put(x, "1");
    due.is("of F101", x.fault(), -9);
    Due.put(x, "/");
    due.is("of F101/", x.fault(), 4);
    due.is("asking changes nothing", x.fault() * 100 + x.about(10), 405);
  }

  private static void fortressKeeps() {
    EdgesTest.promise(5, "THE TEXT is THE FORTRESS (no ACTS; what was kept is gone; THE BOOK stays):");
    SleepByRation x = Due.fort("F203G0590G0590T01");
    Due.quarters(x, 1, 0);
    x.drum();
    x.keep(0);
    x.keep(1);
    x.use(4, 1, 2);
    x.use(4, 1, 2);
    due.is("acts ahead of it", x.about(8), 3);
    due.is("fortress()", Due.anew(x, "F105G0711G0822G0933"), 3);
    due.is("acts", x.about(8), 0);
    due.is("undo()", x.undo(), -3);
    due.is("again(0)", x.again(0), -3);
    due.is("again(1)", x.again(1), -3);
    due.is("uses", x.about(9), 2);
    due.are("forged", new long[] {x.forged(), x.forgedAt(0), x.forgers()}, 1, 4, 2);
    due.is("the text stays", x.about(10), 19);
    due.are("beds, limit", new long[] {x.about(1), x.about(2)}, 1, 5);
    due.are("tired", Due.row(x, 0), 7, 8, 9);
    due.are("no twins", Due.row(x, 5), -9, -9, -9);
  }

  private static void fortressCounts() {
    EdgesTest.promise(5, "how many GUARDS.");
    SleepByRation x = new SleepByRation();
    for (int n = 0; n <= 5; n++) due.is(n + " guards", Due.anew(x, "F199" + "G0000".repeat(n)), n);
    for (int n = 5; n >= 0; n--) {
      due.is(n + " guards", Due.anew(x, "F199" + "G0000".repeat(n)), n);
      due.is("no more of them", x.guard(n, 0), -1);
    }
  }

  private static void fortressLate() {
    EdgesTest.promise(5, "LATE: a FAULT.");
    SleepByRation x = Due.fort("F203G0590G0590T01");
    Due.quarters(x, 1, 0);
    x.plan(2, 3);
    x.keep(1);
    x.use(4, 1, 2);
    String[] faulty = {"", "F", "F20", "F200", "F609", "F209G", "F209G000", "F209T", "F209G0000T", "F209G0000G0000T01T", FIVE + "G", WHOLE + " "};
    for (String text : faulty) {
      SleepByRation y = Due.fort("F203G0590G0590T01");
      Due.quarters(y, 1, 0);
      y.wipe();
      Due.put(y, text);
      due.watch(y);
      due.is("fortress() of " + text, y.fortress(), -3);
      due.unchanged();
    }
    due.is("of a part that is not at its end", Due.anew(x, "F105G01"), -3);
    due.is("the plan", x.plan(2, 3), 3);
    due.is("undo()", x.undo(), 1);
    due.is("again(1)", x.again(1), 2);
    due.is("twins", x.guard(0, 5), 1);
  }
}
