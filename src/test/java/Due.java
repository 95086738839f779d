import java.util.ArrayList;
import java.util.List;

/** Counts and prints the answers that are not the ones that are due. */
final class Due {
  /** A sentence of the document and how many answers were asked for it. */
  static final class Sentence {
    final String section;
    final String words;
    int answers = 0;

    Sentence(String section, String words) {
      this.section = section;
      this.words = words;
    }
  }

  // A test makes one of these: what is built for it by a static call is counted there.
  private static Due current;

  private final String name;
  private final List<Sentence> sentences = new ArrayList<>();
  private int asked = 0;
  private int wrong = 0;
  private Sentence sentence;
  private SleepByRation watched;
  private long[] before;

  Due(String name) {
    this.name = name;
    current = this;
  }

  /** From here on the answers are those that this sentence of the document asks for. */
  void says(String section, String words) {
    sentence = new Sentence(section, words);
    sentences.add(sentence);
  }

  List<Sentence> sentences() {
    return sentences;
  }

  void is(String call, long got, long want) {
    asked++;
    if (sentence != null) sentence.answers++;
    if (got != want) {
      wrong++;
      String said = sentence == null ? "" : sentence.section + ", \"" + sentence.words + "\": ";
      System.out.println(name + ": " + said + call + " answered " + got + ", due is " + want);
    }
  }

  /** A run of answers, for rows that belong together. */
  void are(String calls, long[] got, long... want) {
    is(calls + ", how many", got.length, want.length);
    for (int i = 0; i < Math.min(got.length, want.length); i++) is(calls + " [" + i + "]", got[i], want[i]);
  }

  void end() {
    System.out.println(name + ": " + asked + " answers, " + wrong + " wrong");
    if (wrong != 0 || asked == 0) System.exit(1);
  }

  /** Writes a text behind what is there, byte by byte (signs 0 to 255). */
  static void put(SleepByRation x, String text) {
    for (int i = 0; i < text.length(); i++) x.write(1, text.charAt(i));
  }

  /** What fault() says of just this text. */
  static int faultOf(String text) {
    SleepByRation x = new SleepByRation();
    put(x, text);
    return x.fault();
  }

  /** A new object with this fortress; that it is made is an answer of its own, if it is not as due. */
  static SleepByRation fort(String text) {
    SleepByRation x = new SleepByRation();
    put(x, text);
    int made = x.fortress();
    long told = text.chars().filter(c -> c == 'G').count();
    if (made != told) current.is("fortress() of " + text, made, told);
    return x;
  }

  /** The text is another one, and it is the fortress: what fortress() answers. */
  static int anew(SleepByRation x, String text) {
    x.wipe();
    put(x, text);
    return x.fortress();
  }

  static void quarters(SleepByRation x, int... sets) {
    for (int set : sets) x.quarter(set);
  }

  /** One thing of all guards: what as guard() has it. */
  static long[] row(SleepByRation x, int what) {
    long[] all = new long[x.about(0)];
    for (int g = 0; g < all.length; g++) all[g] = x.guard(g, what);
    return all;
  }

  /** All of an object that can be told: some 60 calls, of the 512 that it is used for. */
  static long[] look(SleepByRation x) {
    long[] all = new long[80];
    int n = 0;
    for (int w = 0; w <= 10; w++) all[n++] = x.about(w);
    for (int g = 0; g < x.about(0); g++) for (int w = 0; w <= 6; w++) all[n++] = x.guard(g, w);
    for (int i = 0; i < 4; i++) {
      int was = x.plan(i, 0);
      x.plan(i, was);
      all[n++] = was;
    }
    all[n++] = x.fault();
    all[n++] = x.forged();
    for (int i = 0; i < 3; i++) all[n++] = x.forgedAt(i);
    all[n++] = x.forgers();
    return java.util.Arrays.copyOf(all, n);
  }

  /** From here to unchanged() all calls are refused ones, behind which nothing may be otherwise. */
  void watch(SleepByRation x) {
    watched = x;
    before = look(x);
  }

  void unchanged() {
    are("what is refused changes nothing", look(watched), before);
  }
}
