import java.util.concurrent.Callable;

/** What the tests share: it counts the answers that are not due, and ends the program with 1 if there was one. */
final class Check {
  private static int wrong = 0;
  private static int asked = 0;

  private Check() {}

  /** The answer of a call as text, or throws. and the name of what it threw. */
  static String answer(Callable<?> call) {
    try {
      return String.valueOf(call.call());
    } catch (Exception thrown) {
      return "throws." + thrown.getClass().getSimpleName();
    }
  }

  static void due(String what, Object want, Callable<?> call) {
    asked++;
    String got = answer(call);
    if (!got.equals(String.valueOf(want))) {
      wrong++;
      System.out.println(what + " answered " + got + ", due is " + want);
    }
  }

  static void end() {
    System.out.println(asked + " answers, " + wrong + " of them not as due");
    if (wrong != 0) {
      System.exit(1);
    }
  }

  /** The long whose bytes are these characters, eight at most. */
  static long packed(String characters) {
    long packed = 0;
    for (int place = 0; place < characters.length(); place++) {
      packed |= (long) characters.charAt(place) << (8 * place);
    }
    return packed;
  }

  static void put(HeadCount x, String text) {
    for (int start = 0; start < text.length(); start += 8) {
      if (!x.write(packed(text.substring(start, Math.min(text.length(), start + 8))))) {
        throw new AssertionError("not written: " + text);
      }
    }
  }

  static HeadCount withText(String text) {
    HeadCount x = new HeadCount();
    put(x, text);
    return x;
  }

  static HeadCount withSentence(String text) {
    HeadCount x = withText(text);
    x.read();
    return x;
  }

  /** All that the sentence answers, in eleven calls: "fails 0 holds 00111 ways 0 0 1 3 6". */
  static String answers(HeadCount x) {
    StringBuilder holds = new StringBuilder();
    StringBuilder ways = new StringBuilder();
    for (int n = 0; n <= 4; n++) {
      int size = n;
      holds.append(answer(() -> x.holds(size)).replace("true", "1").replace("false", "0"));
      ways.append(" ").append(answer(() -> x.ways(size)));
    }
    return "fails " + answer(x::fails) + " holds " + holds + " ways" + ways;
  }
}
