/** What the tests of the boundary cases share: the two sides of a boundary between texts, and what a sentence says. */
final class Bounds {
  private Bounds() {}

  /** The text is a sentence with so many A and E. */
  static void is(int quantifiers, String text) {
    for (Untouched object : Untouched.ofEachKind(text)) {
      Check.due("read of " + text, quantifiers, object.x::read);
      Check.due("length after " + text, 0, object.x::length);
    }
  }

  /** The text is no sentence: it stays, and so does the sentence before it, if there is one. */
  static void isNot(String text) {
    for (Untouched object : Untouched.ofEachKind(text)) {
      object.refusesRead(text);
      object.refusesRead(text + " again");
      object.wipes();
    }
  }

  /** A sentence that begins with no A or E, and its truth, 1 or 0, in the worlds 0 to 4. */
  static void says(String text, String truth) {
    says(text, truth, String.join(" ", truth.split("")));
  }

  /** A sentence, its truth and its ways in the worlds 0 to 4. */
  static void says(String text, String truth, String ways) {
    String answers = "fails " + truth.indexOf('0') + " holds " + truth + " ways " + ways;
    Check.due(text, answers, () -> Check.answers(Check.withSentence(text)));
  }
}
