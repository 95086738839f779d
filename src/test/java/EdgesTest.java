/** Each sentence of the document that names a boundary case has a test of its own, named by its words. */
public final class EdgesTest {
  static final String TERMS = "Terms";
  static final int LEAST = Integer.MIN_VALUE;
  static final int MOST = Integer.MAX_VALUE;
  static final Due due = new Due("EdgesTest");

  public static void main(String[] args) throws Exception {
    TextEdges.play();
    GuardEdges.play();
    ActEdges.play();
    RotaEdges.play();
    PlanEdges.play();
    BookEdges.play();
    SlotEdges.play();
    RefusalEdges.play();
    Sentences.check(due);
    due.end();
  }

  static void terms(String words) {
    due.says(TERMS, words);
  }

  static void promise(int number, String words) {
    due.says("Promise " + number, words);
  }
}
