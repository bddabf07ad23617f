import java.util.HashMap;
import java.util.HashSet;
import java.util.Map;
import java.util.Set;

/**
 * All short sentences without blanks, over X, i and three decimals, put together from their smallest pieces upwards:
 * unlike the class and the oracle it never takes a text apart. They are too short to be too deep.
 */
final class Grammar {
  /** The document's lines: a kind, then each row that it may be; "any number of times" is a row that begins with itself. */
  private static final String[][] LINES = {
    {"formula", "clause", "formula | clause"},
    {"clause", "one", "clause & one"},
    {"one", "! one", "AX one", "EX one", "Ai one", "Ei one", "( formula )", "sum < sum", "sum = sum", "divisor : sum",
        "[ set < set ]", "[ set = set ]"},
    {"sum", "parts", "- parts"},
    {"parts", "part", "parts + part", "parts - part"},
    {"part", "number", "number * thing", "thing"},
    {"thing", "i", "n", "# single"},
    {"set", "meet", "set + meet"},
    {"meet", "single", "meet * single"},
    {"single", "X", "0", "1", "- single", "( set )"},
    {"number", "decimal", "decimal decimal", "decimal decimal decimal"},
    {"divisor", "number"},
    {"decimal", "0", "1", "2"},
  };

  private final Map<String, String[]> rows = new HashMap<>();
  private final Map<String, Set<String>> known = new HashMap<>();

  Grammar() {
    for (String[] line : LINES) {
      rows.put(line[0], line);
    }
  }

  Set<String> sentences(int longest) {
    Set<String> sentences = new HashSet<>();
    for (int length = 1; length <= longest; length++) {
      sentences.addAll(texts("formula", length, ""));
    }
    return sentences;
  }

  /** The texts of a kind and a length; bound has the variables that may stand in them. */
  private Set<String> texts(String kind, int length, String bound) {
    String key = kind + length + bound;
    if (!known.containsKey(key)) {
      Set<String> texts = new HashSet<>();
      String[] line = rows.get(kind);
      for (int row = 1; row < line.length; row++) {
        texts.addAll(ofRow(line[row].split(" "), 0, length, bound));
      }
      if (kind.equals("divisor")) {
        texts.removeIf(text -> text.matches("0+"));
      }
      known.put(key, texts);
    }
    return known.get(key);
  }

  /** The texts of a row from one of its pieces on. */
  private Set<String> ofRow(String[] pieces, int from, int length, String bound) {
    if (from == pieces.length) {
      return length == 0 ? Set.of("") : Set.of();
    }
    Set<String> texts = new HashSet<>();
    String piece = pieces[from];
    if (!rows.containsKey(piece)) {
      boolean free = piece.matches("[Xi]") && !bound.contains(piece);
      if (!free && piece.length() <= length) {
        join(texts, Set.of(piece), ofRow(pieces, from + 1, length - piece.length(), with(bound, piece)));
      }
      return texts;
    }
    // each piece behind has a character at least: so a row that begins with its own kind ends
    for (int part = 1; part <= length - (pieces.length - from - 1); part++) {
      Set<String> first = texts(piece, part, bound);
      if (!first.isEmpty()) {
        join(texts, first, ofRow(pieces, from + 1, length - part, bound));
      }
    }
    return texts;
  }

  private static String with(String bound, String piece) {
    String variable = piece.matches("[AE].") ? piece.substring(1) : "";
    if (variable.isEmpty() || bound.contains(variable)) {
      return bound;
    }
    return bound.isEmpty() ? variable : "Xi";
  }

  private static void join(Set<String> texts, Set<String> firsts, Set<String> rests) {
    for (String first : firsts) {
      for (String rest : rests) {
        texts.add(first + rest);
      }
    }
  }
}
