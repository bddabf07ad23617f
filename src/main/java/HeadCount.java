/** Reads sentences on finite sets and on how many elements they have, and tells in which worlds they are true. */
public final class HeadCount {
  private static final int LONGEST_TEXT = 120;
  private static final int FIRST_CODE = 32;
  private static final int LAST_CODE = 126;
  private static final int BYTES_OF_LONG = 8;
  private static final int LARGEST_WORLD = 4;
  private static final int NOT_COUNTED = -1;

  /** The place of a variable in here is its place in every row of variables: numbers first, then sets. */
  private static final String VARIABLES = "ijkXYZ";
  private static final int FIRST_SET = 3;

  private final char[] text;
  private int used;
  private final Parser parser;
  private final World world;
  /** What the sentence says; null as long as there is no sentence. */
  private Node sentence;
  /** The ways in each world, kept because a dear sentence may be asked about hundreds of times. */
  private final int[] counted;

  public HeadCount() {
    text = new char[LONGEST_TEXT];
    used = 0;
    parser = new Parser();
    world = new World();
    sentence = null;
    counted = new int[LARGEST_WORLD + 1];
  }

  public boolean write(long characters) {
    int added = 0;
    for (int place = 0; place < BYTES_OF_LONG; place++) {
      int code = byteAt(characters, place);
      if (code != 0) {
        if (code < FIRST_CODE || code > LAST_CODE) {
          return false;
        }
        added++;
      }
    }
    if (used + added > LONGEST_TEXT) {
      return false;
    }
    for (int place = 0; place < BYTES_OF_LONG; place++) {
      append(byteAt(characters, place));
    }
    return true;
  }

  public int wipe() {
    int had = used;
    used = 0;
    return had;
  }

  public int read() throws IllegalArgumentException {
    sentence = parser.parse(text, used);
    used = 0;
    for (int n = 0; n <= LARGEST_WORLD; n++) {
      counted[n] = NOT_COUNTED;
    }
    return parser.quantifiers;
  }

  public boolean holds(int n) throws IllegalStateException, IllegalArgumentException {
    needSentence();
    needWorld(n);
    return isTrueIn(n);
  }

  public int fails() throws IllegalStateException {
    needSentence();
    for (int n = 0; n <= LARGEST_WORLD; n++) {
      if (!isTrueIn(n)) {
        return n;
      }
    }
    return -1;
  }

  public int ways(int n) throws IllegalStateException, IllegalArgumentException {
    needSentence();
    needWorld(n);
    return waysIn(n);
  }

  public int length() {
    return used;
  }

  private static int byteAt(long characters, int place) {
    return (int) (characters >>> (8 * place)) & 0xFF;
  }

  private void append(int code) {
    if (code != 0 && used < LONGEST_TEXT) {
      text[used] = (char) code;
      used++;
    }
  }

  private void needSentence() {
    if (sentence == null) {
      throw new IllegalStateException("there is no sentence");
    }
  }

  private static void needWorld(int n) {
    if (n < 0 || n > LARGEST_WORLD) {
      throw new IllegalArgumentException("no world has so many elements");
    }
  }

  private int waysIn(int n) {
    if (counted[n] == NOT_COUNTED) {
      counted[n] = world.count(sentence, n);
    }
    return counted[n];
  }

  private boolean isTrueIn(int n) {
    int count = waysIn(n);
    return sentence.sign == 'A' ? count == World.choices(sentence.variable, n) : count > 0;
  }

  /**
   * A piece of a sentence. Its sign says what it is: most often the character that it was read from.
   * The pieces that it is made of are a chain: first, its next, and so on.
   */
  private static final class Node {
    /** Signs for what no single character tells: set < set, set = set, and a part that is a number alone. */
    static final char WITHIN = '[';
    static final char SAME_SET = ']';
    static final char NUMBER = '1';

    char sign;
    /** The factor of a part, or what stands before a colon. */
    int number;
    /** The place in VARIABLES of the variable that the piece is or binds. */
    int variable;
    Node first;
    Node next;

    void reset(char newSign) {
      sign = newSign;
      number = 0;
      variable = 0;
      first = null;
      next = null;
    }
  }

  /** Turns a text into nodes, one method for each kind of thing in the grammar; refuses what is no sentence. */
  private static final class Parser {
    private static final char END = 0;
    private static final char BLANK = ' ';
    private static final int DEEPEST = 12;
    private static final int MOST_QUANTIFIERS = 4;
    private static final int MOST_DECIMALS = 3;

    private final char[] signs;
    private int count;
    private int at;
    /** How many A and E the text has, as far as it has been parsed. */
    int quantifiers;
    /** Which variables an A or E around the present place binds. */
    private final boolean[] bound;
    /** Two rows of nodes: the sentence in force stays whole in one while the other is filled, maybe in vain. */
    private Node[] nodes;
    private Node[] nodesInForce;
    private int made;

    Parser() {
      signs = new char[LONGEST_TEXT];
      bound = new boolean[VARIABLES.length()];
      nodes = new Node[LONGEST_TEXT];
      nodesInForce = new Node[LONGEST_TEXT];
    }

    Node parse(char[] text, int used) {
      start(text, used);
      Node sentence = row('|', 0);
      insist(at == count);
      Node[] filled = nodes;
      nodes = nodesInForce;
      nodesInForce = filled;
      return sentence;
    }

    private void start(char[] text, int used) {
      count = 0;
      at = 0;
      quantifiers = 0;
      made = 0;
      for (int variable = 0; variable < bound.length; variable++) {
        bound[variable] = false;
      }
      for (int place = 0; place < used && place < text.length && count < signs.length; place++) {
        if (text[place] != BLANK) {
          signs[count] = text[place];
          count++;
        }
      }
    }

    /** A formula ('|'), a clause ('&'), a set ('+') or a meet ('*'): items with that sign between them. */
    private Node row(char sign, int depth) {
      Node first = item(sign, depth);
      if (peek() != sign) {
        return first;
      }
      Node whole = make(sign);
      whole.first = first;
      Node last = first;
      for (int more = 0; more < LONGEST_TEXT && take(sign); more++) {
        last.next = item(sign, depth);
        last = last.next;
      }
      return whole;
    }

    private Node item(char sign, int depth) {
      switch (sign) {
        case '|':
          return row('&', depth);
        case '&':
          return one(depth);
        case '+':
          return row('*', depth);
        default:
          return single(depth);
      }
    }

    private Node one(int depth) {
      insist(depth <= DEEPEST);
      switch (peek()) {
        case '!':
          return not(depth);
        case 'A':
        case 'E':
          return quantified(depth);
        case '(':
          return bracketed(depth);
        case '[':
          return comparisonOfSets(depth);
        default:
          return startsWithDivisor() ? divided(depth) : comparisonOfSums(depth);
      }
    }

    private Node not(int depth) {
      Node whole = make(next());
      whole.first = one(depth + 1);
      return whole;
    }

    private Node quantified(int depth) {
      Node whole = make(next());
      quantifiers++;
      insist(quantifiers <= MOST_QUANTIFIERS);
      int variable = VARIABLES.indexOf(next());
      insist(variable >= 0 && variable < bound.length);
      whole.variable = variable;
      boolean boundOutside = bound[variable];
      bound[variable] = true;
      whole.first = one(depth + 1);
      bound[variable] = boundOutside;
      return whole;
    }

    /** The bracket keeps a node of its own, as a sentence in brackets does not begin with A or E. */
    private Node bracketed(int depth) {
      Node whole = make(next());
      whole.first = row('|', depth + 1);
      insist(take(')'));
      return whole;
    }

    private Node comparisonOfSets(int depth) {
      insist(take('['));
      Node left = row('+', depth);
      char sign = next();
      insist(sign == '<' || sign == '=');
      Node whole = make(sign == '<' ? Node.WITHIN : Node.SAME_SET);
      whole.first = left;
      left.next = row('+', depth);
      insist(take(']'));
      return whole;
    }

    /** Only the colon behind it tells a divisor from a sum that begins with a number. */
    private boolean startsWithDivisor() {
      if (!isDecimal(peek())) {
        return false;
      }
      int start = at;
      number();
      boolean found = peek() == ':';
      at = start;
      return found;
    }

    private Node divided(int depth) {
      int divisor = number();
      insist(divisor != 0);
      Node whole = make(next());
      whole.number = divisor;
      addSum(whole, 1, depth);
      return whole;
    }

    /** Both sums go into one, the right one with its signs turned: it is compared with 0. */
    private Node comparisonOfSums(int depth) {
      Node whole = make(END);
      addSum(whole, 1, depth);
      whole.sign = next();
      insist(whole.sign == '<' || whole.sign == '=');
      addSum(whole, -1, depth);
      return whole;
    }

    private void addSum(Node whole, int side, int depth) {
      addPart(whole, take('-') ? -side : side, depth);
      for (int more = 0; more < LONGEST_TEXT && (peek() == '+' || peek() == '-'); more++) {
        addPart(whole, next() == '-' ? -side : side, depth);
      }
    }

    /** Puts the part in front, as the order of the parts changes nothing. */
    private void addPart(Node whole, int side, int depth) {
      int factor = side;
      boolean isNumberAlone = false;
      if (isDecimal(peek())) {
        factor = side * number();
        isNumberAlone = !take('*');
      }
      Node part = isNumberAlone ? make(Node.NUMBER) : thing(depth);
      part.number = factor;
      part.next = whole.first;
      whole.first = part;
    }

    private Node thing(int depth) {
      char sign = next();
      Node thing = make(sign);
      if (sign == '#') {
        thing.first = single(depth + 1);
      } else if (sign != 'n') {
        thing.variable = boundVariable(sign);
        insist(thing.variable < FIRST_SET);
      }
      return thing;
    }

    private Node single(int depth) {
      insist(depth <= DEEPEST);
      char sign = next();
      if (sign == '(') {
        Node set = row('+', depth + 1);
        insist(take(')'));
        return set;
      }
      Node single = make(sign);
      if (sign == '-') {
        single.first = single(depth + 1);
      } else if (sign != '0' && sign != '1') {
        single.variable = boundVariable(sign);
        insist(single.variable >= FIRST_SET);
      }
      return single;
    }

    private int boundVariable(char sign) {
      int variable = VARIABLES.indexOf(sign);
      insist(variable >= 0 && variable < bound.length && bound[variable]);
      return variable;
    }

    private int number() {
      int value = 0;
      int decimals = 0;
      while (decimals < MOST_DECIMALS && isDecimal(peek())) {
        value = 10 * value + (next() - '0');
        decimals++;
      }
      insist(decimals > 0 && !isDecimal(peek()));
      return value;
    }

    private static boolean isDecimal(char sign) {
      return sign >= '0' && sign <= '9';
    }

    private char peek() {
      return at < count && at < signs.length ? signs[at] : END;
    }

    private char next() {
      char sign = peek();
      if (at < count) {
        at++;
      }
      return sign;
    }

    private boolean take(char sign) {
      boolean found = peek() == sign;
      if (found) {
        next();
      }
      return found;
    }

    /** Each node is made for a character of its own, so that a row as long as the text is long enough. */
    private Node make(char sign) {
      insist(made < nodes.length);
      if (nodes[made] == null) {
        nodes[made] = new Node();
      }
      Node node = nodes[made];
      made++;
      node.reset(sign);
      return node;
    }

    private static void insist(boolean right) {
      if (!right) {
        throw new IllegalArgumentException("the text is no sentence");
      }
    }
  }

  /**
   * A world and what the variables stand for in it. A set is a number with a bit for each of its elements.
   * The methods that call one another end, because the parser lets no sentence be deeper than its limit.
   */
  private static final class World {
    private static final int LEAST_NUMBER = -8;
    private static final int GREATEST_NUMBER = 8;

    private int size;
    private int allElements;
    private final int[] values;

    World() {
      values = new int[VARIABLES.length()];
    }

    /** For how many values the variable of a leading A or E makes it true; for other sentences 1 or 0. */
    int count(Node sentence, int n) {
      size = n;
      allElements = (1 << n) - 1;
      if (sentence.sign != 'A' && sentence.sign != 'E') {
        return isTrue(sentence) ? 1 : 0;
      }
      int count = 0;
      int start = firstChoice(sentence.variable);
      int end = start + choices(sentence.variable, n);
      for (int choice = start; choice < end; choice++) {
        bind(sentence.variable, choice);
        if (isTrue(sentence.first)) {
          count++;
        }
      }
      return count;
    }

    static int choices(int variable, int n) {
      return variable < FIRST_SET ? GREATEST_NUMBER - LEAST_NUMBER + 1 : 1 << n;
    }

    private static int firstChoice(int variable) {
      return variable < FIRST_SET ? LEAST_NUMBER : 0;
    }

    private boolean isTrue(Node node) {
      if (node == null) {
        return false;
      }
      switch (node.sign) {
        case '|':
          return anyIs(true, node.first);
        case '&':
          return !anyIs(false, node.first);
        case '!':
          return !isTrue(node.first);
        case '(':
          return isTrue(node.first);
        case 'A':
          return !anyChoiceMakes(false, node);
        case 'E':
          return anyChoiceMakes(true, node);
        case Node.WITHIN:
        case Node.SAME_SET:
          return isTrueOfSets(node);
        default:
          return isTrueOfSum(node);
      }
    }

    private boolean anyIs(boolean sought, Node chain) {
      for (Node node = chain; node != null; node = node.next) {
        if (isTrue(node) == sought) {
          return true;
        }
      }
      return false;
    }

    /** The value from outside comes back at the end, as an A or E around this one may bind the same variable. */
    private boolean anyChoiceMakes(boolean sought, Node quantified) {
      int variable = quantified.variable;
      int valueOutside = value(variable);
      int start = firstChoice(variable);
      int end = start + choices(variable, size);
      boolean found = false;
      for (int choice = start; choice < end && !found; choice++) {
        bind(variable, choice);
        found = isTrue(quantified.first) == sought;
      }
      bind(variable, valueOutside);
      return found;
    }

    private boolean isTrueOfSets(Node comparison) {
      Node left = comparison.first;
      if (left == null) {
        return false;
      }
      int leftSet = elements(left);
      int rightSet = elements(left.next);
      return comparison.sign == Node.WITHIN ? (leftSet & ~rightSet) == 0 : leftSet == rightSet;
    }

    private boolean isTrueOfSum(Node saying) {
      int sum = 0;
      for (Node part = saying.first; part != null; part = part.next) {
        sum += part.number * amount(part);
      }
      switch (saying.sign) {
        case '<':
          return sum < 0;
        case '=':
          return sum == 0;
        default:
          return saying.number != 0 && sum % saying.number == 0;
      }
    }

    private int amount(Node part) {
      switch (part.sign) {
        case Node.NUMBER:
          return 1;
        case 'n':
          return size;
        case '#':
          return Integer.bitCount(elements(part.first));
        default:
          return value(part.variable);
      }
    }

    private int elements(Node set) {
      if (set == null) {
        return 0;
      }
      switch (set.sign) {
        case '+':
          return union(set.first);
        case '*':
          return meet(set.first);
        case '-':
          return allElements & ~elements(set.first);
        case '0':
          return 0;
        case '1':
          return allElements;
        default:
          return value(set.variable);
      }
    }

    private int union(Node chain) {
      int result = 0;
      for (Node set = chain; set != null; set = set.next) {
        result |= elements(set);
      }
      return result;
    }

    private int meet(Node chain) {
      int result = allElements;
      for (Node set = chain; set != null; set = set.next) {
        result &= elements(set);
      }
      return result;
    }

    private int value(int variable) {
      return variable >= 0 && variable < values.length ? values[variable] : 0;
    }

    private void bind(int variable, int value) {
      if (variable >= 0 && variable < values.length) {
        values[variable] = value;
      }
    }
  }
}
