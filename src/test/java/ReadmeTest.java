import java.io.IOException;
import java.nio.file.Files;
import java.nio.file.Path;
import java.util.concurrent.Callable;
import java.util.regex.Matcher;
import java.util.regex.Pattern;

/** What README.md shows of the class is what the class answers. */
final class ReadmeTest {
  private static final Pattern CALL = Pattern.compile("x\\.(\\w+)\\((\\w*)\\); +// (-?\\w+).*");
  private static final Pattern SENTENCE = Pattern.compile("(\\S.*?) +(fails -?\\d holds [01]{5} ways( \\d+){5})");
  private static final Pattern NONE = Pattern.compile("(\\S.*?) +no sentence: .*");

  private ReadmeTest() {}

  public static void main(String[] args) throws IOException {
    String readme = Files.readString(Path.of("README.md"));
    Check.due("calls shown", 8, () -> calls(readme));
    Check.due("sentences shown", 9, () -> sentences(readme));
    Check.due("texts shown that are none", 10, () -> none(readme));
    Check.end();
  }

  /** Makes the calls of the first example one after another; how many there are. */
  private static int calls(String readme) {
    HeadCount x = new HeadCount();
    int count = 0;
    for (String line : readme.split("\n")) {
      Matcher call = CALL.matcher(line);
      if (call.matches()) {
        Check.due(line, call.group(3), call(x, call.group(1), call.group(2)));
        count++;
      }
    }
    return count;
  }

  private static Callable<?> call(HeadCount x, String name, String argument) {
    return switch (name) {
      case "write" -> () -> x.write(Long.decode(argument.replace("L", "")));
      case "wipe" -> x::wipe;
      case "read" -> x::read;
      case "holds" -> () -> x.holds(Integer.parseInt(argument));
      case "fails" -> x::fails;
      case "ways" -> () -> x.ways(Integer.parseInt(argument));
      default -> x::length;
    };
  }

  private static int sentences(String readme) {
    int count = 0;
    for (String line : readme.split("\n")) {
      Matcher sentence = SENTENCE.matcher(line);
      if (sentence.matches()) {
        String text = sentence.group(1);
        Check.due(text, sentence.group(2), () -> Check.answers(Check.withSentence(text)));
        count++;
      }
    }
    return count;
  }

  private static int none(String readme) {
    int count = 0;
    for (String line : readme.split("\n")) {
      Matcher none = NONE.matcher(line);
      if (none.matches()) {
        String text = none.group(1);
        Check.due("read of " + text, "throws.IllegalArgumentException", () -> Check.withText(text).read());
        count++;
      }
    }
    return count;
  }
}
