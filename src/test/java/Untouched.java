import java.util.concurrent.Callable;

/** An object with a sentence in force, or none, and a text begun: a refused call must leave both what they were. */
final class Untouched {
  static final String SENTENCE = "EX#X=2";
  static final String ANSWERS = "fails 0 holds 00111 ways 0 0 1 3 6";
  static final String NO_ANSWERS = ("fails S holds " + "S".repeat(5) + " ways" + " S".repeat(5))
      .replace("S", "throws.IllegalStateException");

  final HeadCount x;
  private final String answers;
  private String text = "";

  private Untouched(HeadCount x, String answers) {
    this.x = x;
    this.answers = answers;
  }

  static Untouched withoutSentence(String text) {
    return new Untouched(new HeadCount(), NO_ANSWERS).with(text);
  }

  static Untouched withSentence(String text) {
    return new Untouched(Check.withSentence(SENTENCE), ANSWERS).with(text);
  }

  /** The same, but its sentence has been asked about, so that answers may be kept in the object. */
  static Untouched askedBefore(String text) {
    Untouched asked = withSentence(text);
    Check.answers(asked.x);
    return asked;
  }

  /** The same, but not the object's first sentence, so that it may be held where an earlier one was. */
  static Untouched readBefore(int sentences, String text) {
    HeadCount x = new HeadCount();
    for (int read = 0; read < sentences; read++) {
      Check.put(x, "AX(#X<1|[X=1]&2:n)");
      x.read();
    }
    Check.put(x, SENTENCE);
    x.read();
    return new Untouched(x, ANSWERS).with(text);
  }

  /** One of each kind, with the same text. */
  static Untouched[] ofEachKind(String text) {
    return new Untouched[] {
      withoutSentence(text), withSentence(text), askedBefore(text), readBefore(1, text), readBefore(2, text),
    };
  }

  Untouched with(String more) {
    Check.put(x, more);
    text += more;
    return this;
  }

  /** Makes a call that is due to be refused, and looks at all that can be seen without changing it. */
  void refuses(String what, Object refusal, Callable<?> call) {
    Check.due(what, refusal, call);
    Check.due("length after " + what, text.length(), x::length);
    Check.due("the sentence after " + what, answers, () -> Check.answers(x));
  }

  void refusesRead(String what) {
    refuses("read of " + what, "throws.IllegalArgumentException", x::read);
  }

  /** The text shows what it is only when it is read: with the rest behind it, it is a sentence with these answers. */
  void endsAs(String rest, int quantifiers, String newAnswers) {
    with(rest);
    Check.due("length of " + text, text.length(), x::length);
    Check.due("read of " + text, quantifiers, x::read);
    Check.due("length after " + text, 0, x::length);
    Check.due("the sentence after " + text, newAnswers, () -> Check.answers(x));
  }

  /** A text that nothing makes a sentence shows its length a last time, and the object goes on with another. */
  void wipes() {
    Check.due("wipe of " + text, text.length(), x::wipe);
    text = "";
    endsAs("AX#X<3", 1, "fails 3 holds 11100 ways 1 2 4 7 11");
  }
}
