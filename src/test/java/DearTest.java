import java.lang.management.ManagementFactory;

/** The dearest runs of 512 calls: they end soon, and what they make stays far below what one room holds. */
final class DearTest {
  private static final String DEAR = "AiAjAkAX(#X+#-X=n" + "+i-i+j-j+k-k".repeat(8) + ")";
  private static final String REFUSED = "!".repeat(12) + "n=n" + "-n".repeat(52) + "-";

  private DearTest() {}

  public static void main(String[] args) {
    for (int run = 0; run < 3; run++) {
      askOften();
    }
    readOften();
    makesLittle();
    Check.end();
  }

  private static void askOften() {
    HeadCount x = Check.withSentence(DEAR);
    for (int call = 0; call < 160; call++) {
      int n = call % 5;
      Check.due("dear: fails", -1, x::fails);
      Check.due("dear: ways " + n, 17, () -> x.ways(n));
      Check.due("dear: holds " + n, true, () -> x.holds(n));
    }
  }

  private static void readOften() {
    HeadCount x = new HeadCount();
    for (int round = 0; round < 26; round++) {
      Check.put(x, DEAR);
      Check.due("dear: read", 4, x::read);
      Check.due("dear: fails after read", -1, x::fails);
    }
    Check.put(x, REFUSED);
    for (int call = 0; call < 30; call++) {
      Check.due("refused again", "throws.IllegalArgumentException", x::read);
    }
  }

  private static void makesLittle() {
    HeadCount x = new HeadCount();
    quietRun(x, 5);
    long before = allocated();
    quietRun(x, 22);
    long bytes = allocated() - before;
    // the texts that this test cuts are counted too
    Check.due("made at most 200000 bytes (" + bytes + ")", true, () -> bytes <= 200000);
  }

  private static void quietRun(HeadCount x, int rounds) {
    for (int round = 0; round < rounds; round++) {
      Check.put(x, DEAR);
      x.read();
      x.holds(1);
      x.ways(2);
    }
  }

  private static long allocated() {
    return ((com.sun.management.ThreadMXBean) ManagementFactory.getThreadMXBean()).getCurrentThreadAllocatedBytes();
  }
}
