import java.util.Random;
import java.util.concurrent.Callable;

/** Promises 4 to 7 against the oracle, on random sentences and on texts that are nearly sentences. */
final class RandomTest {
  private static final String ALPHABET = "AEijkXYZn0129()[]<=:+-*#!&|  ";
  private static final Random RANDOM = new Random(20261115);
  /** Beyond this the oracle takes too long. */
  private static final int DEAREST = 3000;

  private RandomTest() {}

  public static void main(String[] args) {
    HeadCount x = new HeadCount();
    int sentences = 0;
    int others = 0;
    for (int round = 0; round < 30000; round++) {
      // an object is good for 512 calls, and a round takes some thirty
      if (round % 12 == 0) {
        x = new HeadCount();
      }
      String text = spaced(round % 2 == 0 ? formula(3, "") : mutated(formula(2, "")));
      if (text.length() <= 120) {
        Oracle oracle = new Oracle(text);
        compare(x, text, oracle);
        sentences += oracle.isSentence() ? 1 : 0;
        others += oracle.isSentence() ? 0 : 1;
      }
    }
    System.out.println(sentences + " sentences, " + others + " other texts");
    Check.due("enough of both", true, enough(sentences, others));
    Check.end();
  }

  private static Callable<Boolean> enough(int sentences, int others) {
    return () -> sentences > 5000 && others > 5000;
  }

  private static void compare(HeadCount x, String text, Oracle oracle) {
    x.wipe();
    Check.put(x, text);
    if (!oracle.isSentence()) {
      Check.due("read of " + text, "throws.IllegalArgumentException", x::read);
      Check.due("length of " + text, text.length(), x::length);
      return;
    }
    Check.due("read of " + text, oracle.quantifiers(), x::read);
    Check.due("length after " + text, 0, x::length);
    int fails = -1;
    for (int n = 4; n >= 0; n--) {
      int size = n;
      if (price(text, n) > DEAREST) {
        fails = -2;
      } else {
        boolean holds = oracle.isTrue(n);
        fails = fails != -2 && !holds ? n : fails;
        Check.due(text + ": holds " + n, holds, () -> x.holds(size));
        Check.due(text + ": ways " + n, oracle.ways(n), () -> x.ways(size));
      }
    }
    if (fails != -2) {
      Check.due(text + ": fails", fails, x::fails);
    }
  }

  private static int price(String text, int n) {
    String bare = text.replace(" ", "");
    int price = 1;
    for (int place = 0; place + 1 < bare.length(); place++) {
      if ("AE".indexOf(bare.charAt(place)) >= 0) {
        price *= Character.isLowerCase(bare.charAt(place + 1)) ? 17 : 1 << n;
      }
    }
    return price;
  }

  private static int pick(int below) {
    return RANDOM.nextInt(below);
  }

  private static char pick(String from) {
    return from.charAt(pick(from.length()));
  }

  /** A random formula; bound has the variables that may stand free in it. */
  private static String formula(int depth, String bound) {
    String text = clause(depth, bound);
    return pick(4) == 0 ? text + "|" + formula(depth - 1, bound) : text;
  }

  private static String clause(int depth, String bound) {
    String text = one(depth, bound);
    return pick(4) == 0 ? text + "&" + clause(depth - 1, bound) : text;
  }

  private static String one(int depth, String bound) {
    switch (depth <= 0 ? 5 + pick(5) : pick(10)) {
      case 0:
        return "!" + one(depth, bound);
      case 1:
        return "(" + formula(depth - 1, bound) + ")";
      case 2:
      case 3:
      case 4:
        char variable = pick("ijkXYZXYZ");
        return "" + pick("AE") + variable + (pick(2) == 0 ? one(depth, bound + variable)
            : "(" + formula(depth, bound + variable) + ")");
      case 5:
      case 6:
        return "[" + set(2, bound) + pick("<=") + set(2, bound) + "]";
      case 7:
        return number(1 + pick(4)) + ":" + sum(bound);
      default:
        return sum(bound) + pick("<=") + sum(bound);
    }
  }

  private static String number(int most) {
    return "" + (pick(5) == 0 ? pick(1000) : pick(most + 1));
  }

  private static String sum(String bound) {
    StringBuilder text = new StringBuilder(pick(5) == 0 ? "-" : "").append(part(bound));
    while (pick(3) == 0) {
      text.append(pick("+-")).append(part(bound));
    }
    return text.toString();
  }

  private static String part(String bound) {
    String numbers = bound.replaceAll("[XYZ]", "") + (pick(60) == 0 ? "i" : "n");
    switch (pick(4)) {
      case 0:
        return number(4);
      case 1:
        return number(3) + "*" + pick(numbers);
      case 2:
        return "#" + single(1, bound);
      default:
        return "" + pick(numbers);
    }
  }

  private static String set(int depth, String bound) {
    String text = meet(depth, bound);
    return pick(3) == 0 ? text + "+" + set(depth - 1, bound) : text;
  }

  private static String meet(int depth, String bound) {
    String text = single(depth, bound);
    return pick(3) == 0 ? text + "*" + meet(depth - 1, bound) : text;
  }

  private static String single(int depth, String bound) {
    String sets = bound.replaceAll("[ijk]", "");
    switch (pick(6)) {
      case 0:
        return "-" + single(depth, bound);
      case 1:
        return depth <= 0 ? "0" : "(" + set(depth - 1, bound) + ")";
      default:
        return "" + (sets.isEmpty() || pick(60) == 0 ? pick("01X") : pick(sets + (pick(3) == 0 ? "01" : "")));
    }
  }

  private static String mutated(String text) {
    StringBuilder mutated = new StringBuilder(text);
    for (int change = pick(3); change >= 0; change--) {
      int place = pick(mutated.length());
      switch (pick(5)) {
        case 0:
          mutated.deleteCharAt(place);
          mutated.append(mutated.length() == 0 ? "n" : "");
          break;
        case 1:
          mutated.setCharAt(place, pick(ALPHABET));
          break;
        case 2:
          mutated.insert(place, pick(ALPHABET));
          break;
        case 3:
          mutated.insert(place, String.valueOf(pick("!(-#A")).repeat(1 + pick(13)));
          break;
        default:
          mutated.insert(place, mutated.charAt(pick(mutated.length())));
          break;
      }
    }
    return mutated.toString();
  }

  private static String spaced(String text) {
    StringBuilder spaced = new StringBuilder();
    int blanks = pick(3);
    for (char sign : text.toCharArray()) {
      spaced.append(blanks > 0 && pick(4) == 0 ? " ".repeat(blanks) : "").append(sign);
    }
    return spaced.toString();
  }
}
