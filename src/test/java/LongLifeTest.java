import java.util.concurrent.Callable;
import java.util.function.Function;

/** "An object is used for at most 512 calls after it has been made": what holds of the first holds of the 512th. */
final class LongLifeTest {
  private static final int CALLS = 512;
  private static final String ISE = "throws.IllegalStateException";
  private static final String IAE = "throws.IllegalArgumentException";

  private final HeadCount x = new HeadCount();
  private int calls = 0;

  private LongLifeTest() {}

  public static void main(String[] args) {
    callsOfOneKindOnANewObject();
    callsOfOneKindOnASentence();
    eachKindAsTheLastCall();
    new LongLifeTest().readAsOftenAsCanBe();
    new LongLifeTest().fillAndWipe();
    new LongLifeTest().refuseAsOftenAsCanBe();
    Check.end();
  }

  private void due(Object want, Callable<?> call) {
    calls++;
    Check.due("call " + calls, want, call);
  }

  private void writeAndRead(String text, int quantifiers) {
    due(true, () -> x.write(Check.packed(text)));
    due(quantifiers, x::read);
  }

  /** Calls of many kinds, until so many are left; the text is empty then, and there is no sentence. */
  private void waste(int left) {
    while (calls < CALLS - left - 1) {
      switch (calls % 5) {
        case 0:
          due(true, () -> x.write('n'));
          break;
        case 1:
          due(1, x::length);
          break;
        case 2:
          due(IAE, x::read);
          break;
        case 3:
          due(false, () -> x.write(255));
          break;
        default:
          due(1, x::wipe);
          break;
      }
    }
    x.wipe();
    calls++;
  }

  private static void eachKindAsTheLastCall() {
    new LongLifeTest().lastOnText("", IAE, HeadCount::read);
    new LongLifeTest().lastOnText("", ISE, HeadCount::fails);
    new LongLifeTest().lastOnText("", ISE, x -> x.holds(0));
    new LongLifeTest().lastOnText("", ISE, x -> x.ways(5));
    new LongLifeTest().lastOnText("AX#X<", true, x -> x.write(Check.packed("12345678")));
    new LongLifeTest().lastOnText("AX#X<", false, x -> x.write(127));
    new LongLifeTest().lastOnText("AX#X<", 5, HeadCount::length);
    new LongLifeTest().lastOnText("AX#X<", 5, HeadCount::wipe);
    new LongLifeTest().lastOnText("AX#X<", IAE, HeadCount::read);
    new LongLifeTest().lastOnText("AX#X<3", 1, HeadCount::read);
    new LongLifeTest().lastOnSentence("AX#X<3", 0, HeadCount::length);
    new LongLifeTest().lastOnSentence("AX#X<3", true, x -> x.holds(2));
    new LongLifeTest().lastOnSentence("AX#X<3", false, x -> x.holds(4));
    new LongLifeTest().lastOnSentence("AX#X<3", IAE, x -> x.holds(-1));
    new LongLifeTest().lastOnSentence("AX#X<3", 3, HeadCount::fails);
    new LongLifeTest().lastOnSentence("AX#X<3", 11, x -> x.ways(4));
    new LongLifeTest().lastOnSentence("AX#X<3", IAE, x -> x.ways(5));
  }

  private void lastOnText(String text, Object want, Function<HeadCount, ?> call) {
    waste(2);
    due(true, () -> x.write(Check.packed(text)));
    due(want, () -> call.apply(x));
    hasBeenAWholeLife();
  }

  private void lastOnSentence(String text, Object want, Function<HeadCount, ?> call) {
    waste(3);
    writeAndRead(text, 1);
    due(want, () -> call.apply(x));
    hasBeenAWholeLife();
  }

  private void hasBeenAWholeLife() {
    Check.due("calls made", CALLS, () -> calls);
  }

  private static void callsOfOneKindOnANewObject() {
    often("length", 0, new HeadCount(), HeadCount::length);
    often("wipe", 0, new HeadCount(), HeadCount::wipe);
    often("read", IAE, new HeadCount(), HeadCount::read);
    often("fails", ISE, new HeadCount(), HeadCount::fails);
    often("holds(2)", ISE, new HeadCount(), x -> x.holds(2));
    often("ways(2)", ISE, new HeadCount(), x -> x.ways(2));
    often("write(0)", true, new HeadCount(), x -> x.write(0));
    often("write(7)", false, new HeadCount(), x -> x.write(7));
  }

  private static void callsOfOneKindOnASentence() {
    String text = "EX#X=2";
    often("holds(4)", true, Check.withSentence(text), x -> x.holds(4));
    often("holds(1)", false, Check.withSentence(text), x -> x.holds(1));
    often("fails", 0, Check.withSentence(text), HeadCount::fails);
    often("ways(4)", 6, Check.withSentence(text), x -> x.ways(4));
    often("ways(5)", IAE, Check.withSentence(text), x -> x.ways(5));
    often("read", IAE, Check.withSentence(text), HeadCount::read);
  }

  /** The write and the read that made a sentence are calls too. */
  private static void often(String what, Object want, HeadCount x, Function<HeadCount, ?> call) {
    for (int time = 3; time <= CALLS; time++) {
      Check.due(what + ", time " + time, want, () -> call.apply(x));
    }
  }

  private void readAsOftenAsCanBe() {
    for (int round = 0; calls < CALLS; round++) {
      int bound = round % 6;
      writeAndRead(round % 2 == 0 ? "AX#X<" + bound : "n<" + bound + "&2:2", round % 2 == 0 ? 1 : 0);
      due(bound == 5 ? -1 : bound, x::fails);
      due(bound > 4, () -> x.holds(4));
    }
    hasBeenAWholeLife();
  }

  private void fillAndWipe() {
    for (int round = 0; round < 28; round++) {
      for (int write = 0; write < 15; write++) {
        due(true, () -> x.write(Check.packed("n=n&n=n&")));
      }
      due(120, x::length);
      due(false, () -> x.write('n'));
      due(120, x::wipe);
    }
    due(0, x::length);
    due(true, () -> x.write(Check.packed("AX#X<3")));
    due(6, x::length);
    due(1, x::read);
    due(0, x::length);
    due(3, x::fails);
    due(11, () -> x.ways(4));
    due(true, () -> x.holds(2));
    hasBeenAWholeLife();
  }

  private void refuseAsOftenAsCanBe() {
    writeAndRead("EX#X=2", 1);
    due(true, () -> x.write(Check.packed("AX#X<")));
    for (int round = 0; round < 126; round++) {
      due(IAE, x::read);
      due(false, () -> x.write(-1));
      due(IAE, () -> x.holds(-1));
      due(IAE, () -> x.ways(5));
    }
    due(5, x::length);
    due(6, () -> x.ways(4));
    due(true, () -> x.write('3'));
    due(1, x::read);
    due(3, x::fails);
    hasBeenAWholeLife();
  }
}
