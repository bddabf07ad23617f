import java.util.Set;

/** Each line of the grammar: of all short texts there are, those are sentences that the grammar puts together. */
final class ShortTextsTest {
  private static final String ALPHABET = "AEXin012()[]<=:+-*#!&|";
  private static final String[] BEGINNINGS = {"", "AX", "Ei", "AX[", "1:", "!("};
  private static final int FREE = 4;
  private static final int LONGEST = 7;

  private final Set<String> sentences = new Grammar().sentences(LONGEST);
  private HeadCount x = new HeadCount();
  private int texts = 0;
  private int read = 0;

  private ShortTextsTest() {}

  public static void main(String[] args) {
    ShortTextsTest test = new ShortTextsTest();
    test.eachSentence();
    for (String beginning : BEGINNINGS) {
      test.eachTextWith(beginning);
    }
    System.out.println(test.sentences.size() + " sentences, " + test.texts + " texts");
    Check.end();
  }

  private void eachSentence() {
    for (String sentence : sentences) {
      Check.due("read of " + sentence, countOfAAndE(sentence), () -> Check.withText(sentence).read());
    }
  }

  private void eachTextWith(String beginning) {
    int longest = beginning.length() + FREE;
    read = 0;
    eachText(beginning, longest);
    long due = sentences.stream().filter(s -> s.startsWith(beginning) && s.length() <= longest).count();
    Check.due("how many that begin with " + beginning + " are sentences", due, () -> read);
  }

  private void eachText(String text, int longest) {
    look(text);
    if (text.length() < longest) {
      for (int place = 0; place < ALPHABET.length(); place++) {
        eachText(text + ALPHABET.charAt(place), longest);
      }
    }
  }

  /** Calls due only where something is wrong, as there are millions of texts. */
  private void look(String text) {
    // an object is good for 512 calls
    if (texts % 100 == 0) {
      x = new HeadCount();
    }
    texts++;
    x.wipe();
    x.write(Check.packed(text));
    boolean isRead = isRead();
    read += isRead ? 1 : 0;
    if (isRead != sentences.contains(text)) {
      Check.due("a sentence is " + text, sentences.contains(text), () -> isRead);
    }
  }

  private boolean isRead() {
    try {
      x.read();
      return true;
    } catch (IllegalArgumentException refused) {
      return false;
    }
  }

  private static int countOfAAndE(String text) {
    return text.replaceAll("[^AE]", "").length();
  }
}
