import java.util.ArrayList;
import java.util.HashMap;
import java.util.HashSet;
import java.util.List;
import java.util.Map;
import java.util.Set;
import java.util.TreeSet;

/**
 * A second reading of the document, slow and unlike the class: it tries every way to split a text, takes sets as
 * sets, and looks at depth and variables from the inside outwards.
 */
final class Oracle {
  interface Meaning {
    /** A Boolean for formulas, an Integer for sums, a Set for sets. */
    Object in(int n, Map<Character, Object> values);
  }

  /** A piece of the text that fits the grammar; behind is the one behind its A or E and variable, if it has these. */
  record Piece(Meaning meaning, int depth, Set<Character> free, int quantifiers, char variable, Piece behind) {
    static Piece leaf(Set<Character> free, Meaning meaning) {
      return new Piece(meaning, 0, free, 0, ' ', null);
    }

    Piece deeper(Meaning newMeaning) {
      return new Piece(newMeaning, depth + 1, free, quantifiers, ' ', null);
    }

    Piece same(Meaning newMeaning) {
      return new Piece(newMeaning, depth, free, quantifiers, ' ', null);
    }

    Piece with(Piece other, Meaning newMeaning) {
      Set<Character> both = new TreeSet<>(free);
      both.addAll(other.free);
      return new Piece(newMeaning, Math.max(depth, other.depth), both, quantifiers + other.quantifiers, ' ', null);
    }
  }

  private final Map<String, Piece> known = new HashMap<>();
  private final Piece sentence;

  Oracle(String text) {
    Piece formula = formula(text.replace(" ", ""));
    boolean right = formula != null && formula.depth <= 12 && formula.free.isEmpty() && formula.quantifiers <= 4;
    sentence = right ? formula : null;
  }

  boolean isSentence() {
    return sentence != null;
  }

  int quantifiers() {
    return sentence.quantifiers;
  }

  boolean isTrue(int n) {
    return (Boolean) sentence.meaning.in(n, new HashMap<>());
  }

  int ways(int n) {
    if (sentence.behind == null) {
      return isTrue(n) ? 1 : 0;
    }
    int ways = 0;
    for (Object choice : choices(sentence.variable, n)) {
      Map<Character, Object> values = new HashMap<>();
      values.put(sentence.variable, choice);
      ways += (Boolean) sentence.behind.meaning.in(n, values) ? 1 : 0;
    }
    return ways;
  }

  private Piece formula(String s) {
    for (int p = s.indexOf('|'); p >= 0; p = s.indexOf('|', p + 1)) {
      Piece left = remembered('f', s.substring(0, p));
      Piece right = left == null ? null : remembered('c', s.substring(p + 1));
      if (right != null) {
        return left.with(right, (n, v) -> (Boolean) left.meaning.in(n, v) || (Boolean) right.meaning.in(n, v));
      }
    }
    return remembered('c', s);
  }

  private Piece clause(String s) {
    for (int p = s.indexOf('&'); p >= 0; p = s.indexOf('&', p + 1)) {
      Piece left = remembered('c', s.substring(0, p));
      Piece right = left == null ? null : remembered('o', s.substring(p + 1));
      if (right != null) {
        return left.with(right, (n, v) -> (Boolean) left.meaning.in(n, v) && (Boolean) right.meaning.in(n, v));
      }
    }
    return remembered('o', s);
  }

  private Piece one(String s) {
    if (s.startsWith("!")) {
      Piece behind = remembered('o', s.substring(1));
      return behind == null ? null : behind.deeper((n, v) -> !(Boolean) behind.meaning.in(n, v));
    }
    if (s.matches("[AE][ijkXYZ].*")) {
      return quantified(s);
    }
    if (s.startsWith("(") && s.endsWith(")") && s.length() > 1) {
      Piece inside = remembered('f', s.substring(1, s.length() - 1));
      return inside == null ? null : inside.deeper(inside.meaning);
    }
    if (s.matches("[0-9]{1,3}:.*")) {
      int divisor = Integer.parseInt(s.substring(0, s.indexOf(':')));
      Piece sum = remembered('s', s.substring(s.indexOf(':') + 1));
      return divisor == 0 || sum == null ? null : sum.same((n, v) -> (Integer) sum.meaning.in(n, v) % divisor == 0);
    }
    if (s.startsWith("[") && s.endsWith("]")) {
      return compared(s.substring(1, s.length() - 1), 'S');
    }
    return compared(s, 's');
  }

  private Piece quantified(String s) {
    Piece behind = remembered('o', s.substring(2));
    if (behind == null) {
      return null;
    }
    boolean each = s.charAt(0) == 'A';
    char variable = s.charAt(1);
    Set<Character> free = new TreeSet<>(behind.free);
    free.remove(variable);
    Meaning meaning = (n, v) -> {
      for (Object choice : choices(variable, n)) {
        Map<Character, Object> inside = new HashMap<>(v);
        inside.put(variable, choice);
        if ((Boolean) behind.meaning.in(n, inside) != each) {
          return !each;
        }
      }
      return each;
    };
    return new Piece(meaning, behind.depth + 1, free, behind.quantifiers + 1, variable, behind);
  }

  private Piece compared(String s, char kind) {
    for (int p = 0; p < s.length(); p++) {
      boolean less = s.charAt(p) == '<';
      if (less || s.charAt(p) == '=') {
        Piece left = remembered(kind, s.substring(0, p));
        Piece right = remembered(kind, s.substring(p + 1));
        if (left != null && right != null) {
          return left.with(right, (n, v) -> compare(left.meaning.in(n, v), right.meaning.in(n, v), less));
        }
      }
    }
    return null;
  }

  private static boolean compare(Object left, Object right, boolean less) {
    if (!less) {
      return left.equals(right);
    }
    return left instanceof Integer number ? number < (Integer) right : ((Set<?>) right).containsAll((Set<?>) left);
  }

  private Piece sum(String s) {
    for (int p = 1; p < s.length(); p++) {
      int sign = s.charAt(p) == '+' ? 1 : s.charAt(p) == '-' ? -1 : 0;
      Piece left = sign == 0 ? null : remembered('s', s.substring(0, p));
      Piece right = left == null ? null : remembered('p', s.substring(p + 1));
      if (right != null) {
        return left.with(right, (n, v) -> (Integer) left.meaning.in(n, v) + sign * (Integer) right.meaning.in(n, v));
      }
    }
    if (s.startsWith("-")) {
      Piece part = remembered('p', s.substring(1));
      return part == null ? null : part.same((n, v) -> -(Integer) part.meaning.in(n, v));
    }
    return remembered('p', s);
  }

  private Piece part(String s) {
    if (s.matches("[0-9]{1,3}")) {
      int number = Integer.parseInt(s);
      return Piece.leaf(Set.of(), (n, v) -> number);
    }
    if (s.matches("[0-9]{1,3}\\*.*")) {
      int number = Integer.parseInt(s.substring(0, s.indexOf('*')));
      Piece thing = thing(s.substring(s.indexOf('*') + 1));
      return thing == null ? null : thing.same((n, v) -> number * (Integer) thing.meaning.in(n, v));
    }
    return thing(s);
  }

  private Piece thing(String s) {
    if (s.equals("n")) {
      return Piece.leaf(Set.of(), (n, v) -> n);
    }
    if (s.matches("[ijk]")) {
      return Piece.leaf(Set.of(s.charAt(0)), (n, v) -> v.get(s.charAt(0)));
    }
    Piece single = s.startsWith("#") ? remembered('1', s.substring(1)) : null;
    return single == null ? null : single.deeper((n, v) -> ((Set<?>) single.meaning.in(n, v)).size());
  }

  private Piece setOrMeet(String s, char sign, char kind, char below) {
    for (int p = s.indexOf(sign); p >= 0; p = s.indexOf(sign, p + 1)) {
      Piece left = remembered(kind, s.substring(0, p));
      Piece right = left == null ? null : remembered(below, s.substring(p + 1));
      if (right != null) {
        return left.with(right, (n, v) -> joined((Set<?>) left.meaning.in(n, v), (Set<?>) right.meaning.in(n, v), sign));
      }
    }
    return remembered(below, s);
  }

  private static Set<Object> joined(Set<?> left, Set<?> right, char sign) {
    Set<Object> result = new HashSet<>(left);
    if (sign == '+') {
      result.addAll(right);
    } else {
      result.retainAll(right);
    }
    return result;
  }

  private Piece single(String s) {
    if (s.matches("[XYZ]")) {
      return Piece.leaf(Set.of(s.charAt(0)), (n, v) -> v.get(s.charAt(0)));
    }
    if (s.equals("0") || s.equals("1")) {
      return Piece.leaf(Set.of(), (n, v) -> elements(s.equals("0") ? 0 : (1 << n) - 1));
    }
    if (s.startsWith("-")) {
      Piece behind = remembered('1', s.substring(1));
      return behind == null ? null : behind.deeper((n, v) -> {
        Set<Integer> rest = elements((1 << n) - 1);
        rest.removeAll((Set<?>) behind.meaning.in(n, v));
        return rest;
      });
    }
    if (s.startsWith("(") && s.endsWith(")") && s.length() > 1) {
      Piece inside = remembered('S', s.substring(1, s.length() - 1));
      return inside == null ? null : inside.deeper(inside.meaning);
    }
    return null;
  }

  private Piece remembered(char kind, String s) {
    String key = kind + s;
    if (!known.containsKey(key)) {
      known.put(key, switch (kind) {
        case 'f' -> formula(s);
        case 'c' -> clause(s);
        case 'o' -> one(s);
        case 's' -> sum(s);
        case 'p' -> part(s);
        case 'S' -> setOrMeet(s, '+', 'S', 'M');
        case 'M' -> setOrMeet(s, '*', 'M', '1');
        default -> single(s);
      });
    }
    return known.get(key);
  }

  private static Iterable<Object> choices(char variable, int n) {
    List<Object> choices = new ArrayList<>();
    if (Character.isLowerCase(variable)) {
      for (int number = -8; number <= 8; number++) {
        choices.add(number);
      }
    } else {
      for (int bits = 0; bits < 1 << n; bits++) {
        choices.add(elements(bits));
      }
    }
    return choices;
  }

  private static Set<Integer> elements(int bits) {
    Set<Integer> elements = new HashSet<>();
    for (int element = 0; element < 4; element++) {
      if ((bits >> element & 1) != 0) {
        elements.add(element);
      }
    }
    return elements;
  }
}
