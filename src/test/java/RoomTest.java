import java.lang.management.ManagementFactory;
import java.util.Random;

/** All calls of a run share one room, and no call throws: calls make no objects, whatever they are called with. */
public final class RoomTest {
  private static final Due due = new Due("RoomTest");
  private static final int[] ODD = {0, 1, 2, 3, 4, 5, 6, 7, 8, 9, 10, 11, 12, 15, 16, 31, 32, 47, 48, 49, 99, 100, -1, -2, -9, 1 << 30,
      Integer.MIN_VALUE, Integer.MAX_VALUE};

  public static void main(String[] args) {
    com.sun.management.ThreadMXBean bean = (com.sun.management.ThreadMXBean) ManagementFactory.getThreadMXBean();
    long id = Thread.currentThread().getId();
    long sum = 0;
    for (int warm = 0; warm < 3; warm++) sum += row(new SleepByRation(), new Random(warm));
    SleepByRation x = new SleepByRation();
    Random r = new Random(9);
    bean.getThreadAllocatedBytes(id);
    long before = bean.getThreadAllocatedBytes(id);
    sum += row(x, r);
    long calls = bean.getThreadAllocatedBytes(id) - before;
    due.is("bytes that 512 calls make, " + calls, calls <= 256 ? 1 : 0, 1);
    before = bean.getThreadAllocatedBytes(id);
    SleepByRation y = new SleepByRation();
    long made = bean.getThreadAllocatedBytes(id) - before;
    due.is("bytes that an object makes, " + made, made <= 16384 ? 1 : 0, 1);
    sum += y.about(0);
    odd();
    due.is("sum", sum == Long.MIN_VALUE ? 0 : 1, 1);
    due.end();
  }

  /** 512 calls that really do something; rotas for 4 quarters among them. */
  private static long row(SleepByRation x, Random r) {
    x.write(8, 0x4634363047303939L);
    x.write(8, 0x3347313239344732L);
    x.write(8, 0x3039354733303936L);
    x.write(3, 0x543032L);
    long sum = x.fortress();
    due0(sum);
    for (int c = 5; c < 512; c++) sum += call(x, r.nextInt(27), r.nextInt(4), r.nextInt(4), r.nextInt(4));
    return sum;
  }

  private static void due0(long guards) {
    if (guards != 4) throw new IllegalStateException("the row's fortress has " + guards);
  }

  private static long call(SleepByRation x, int kind, int a, int b, int c) {
    return switch (kind) {
      case 0 -> x.write(a, b);
      case 1 -> x.drum();
      case 2 -> x.fault();
      case 3 -> x.allNod();
      case 4 -> x.about(a);
      case 5 -> x.guard(a, b);
      case 6 -> x.sick(a, (b & 1) == 0);
      case 7 -> x.hand(a, b, c);
      case 8 -> x.pay(a, b);
      case 9 -> x.may(a);
      case 10 -> x.quarter(a);
      case 11 -> x.undo();
      case 12 -> x.rota(a);
      case 13 -> x.rotaAt(a, b);
      case 14 -> x.chance(a, b, (c & 1) == 0);
      case 15 -> x.plan(a, b);
      case 16 -> x.weakest();
      case 17 -> x.settled((a & 1) == 0);
      case 18 -> x.use(a, b, c);
      case 19 -> x.burn();
      case 20 -> x.forged();
      case 21 -> x.forgedAt(a);
      case 22 -> x.forgers();
      case 23 -> x.keep(a);
      case 24 -> x.again(a);
      case 25 -> x.rota(4);
      case 26 -> x.rotaAt(4, a);
      case 27 -> x.wipe();
      default -> x.fortress();
    };
  }

  private static void odd() {
    String[] forts = {null, "F001", "F599G9999G0000G0190T20G5509G9990T34", "F599G9999G0000G0190T20G5509", "F504G0199G0299"};
    Random r = new Random(4);
    for (int k = 0; k < 400; k++) {
      String text = forts[k % forts.length];
      SleepByRation x = text == null ? new SleepByRation() : Due.fort(text);
      for (int c = 0; c < 450; c++) {
        int kind = r.nextInt(29), a = some(r), b = some(r), d = some(r);
        long got = call(x, kind, a, b, d);
        if (got < 0 && got != -1 && got != -2 && got != -3 && got != -4 && got != -9) due.is("call " + kind + " of " + a + " " + b + " " + d, got, 0);
      }
    }
  }

  private static int some(Random r) {
    return ODD[r.nextInt(ODD.length)];
  }
}
