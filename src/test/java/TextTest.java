/** Promises 1, 2, 3 and 8: a new object, write, wipe and length. */
final class TextTest {
  private static final String ISE = "throws.IllegalStateException";

  private TextTest() {}

  public static void main(String[] args) {
    newObject();
    writeTakesBytesFromTheLowest();
    writeRefusesCodes();
    writeRefusesTooMany();
    wipeLeavesTheSentence();
    Check.end();
  }

  private static void newObject() {
    HeadCount x = new HeadCount();
    Check.due("new: length", 0, x::length);
    for (int n = -1; n <= 5; n++) {
      int size = n;
      Check.due("new: holds " + n, ISE, () -> x.holds(size));
      Check.due("new: ways " + n, ISE, () -> x.ways(size));
    }
    Check.due("new: fails", ISE, x::fails);
    Check.due("new: read", "throws.IllegalArgumentException", x::read);
    Check.due("new: wipe", 0, x::wipe);
    Check.due("new, wiped: fails", ISE, x::fails);
  }

  private static void writeTakesBytesFromTheLowest() {
    HeadCount x = new HeadCount();
    Check.due("write of no byte", true, () -> x.write(0));
    Check.due("length after no byte", 0, x::length);
    // 1 < 2, with bytes that are 0 before, between and behind
    Check.due("write with gaps", true, () -> x.write(0x0000320000_3C3100L));
    Check.due("length with gaps", 3, x::length);
    Check.due("read with gaps", 0, x::read);
    Check.due("1<2", true, () -> x.holds(0));
    Check.due("highest byte alone", true, () -> x.write((long) '2' << 56));
    Check.due("second write goes behind", true, () -> x.write(Check.packed("<1")));
    Check.due("length of two writes", 3, x::length);
    Check.due("read of two writes", 0, x::read);
    Check.due("2<1", false, () -> x.holds(0));
    Check.due("eight bytes", true, () -> x.write(Check.packed("1 2 = 12")));
    Check.due("length of eight", 8, x::length);
    Check.due("read of eight", 0, x::read);
    Check.due("12=12", -1, x::fails);
  }

  private static void writeRefusesCodes() {
    for (int code = 0; code <= 255; code++) {
      boolean right = code == 0 || code >= 32 && code <= 126;
      for (int place = 0; place < 8; place++) {
        HeadCount x = Check.withText("n");
        long others = 0x2020202020202020L & ~(0xFFL << (8 * place));
        long characters = others | (long) code << (8 * place);
        Check.due("write with code " + code + " at " + place, right, () -> x.write(characters));
        Check.due("length after code " + code, !right ? 1 : code == 0 ? 8 : 9, x::length);
      }
    }
    HeadCount x = new HeadCount();
    Check.due("write(-1)", false, () -> x.write(-1L));
    Check.due("write(least)", false, () -> x.write(Long.MIN_VALUE));
    Check.due("write(greatest)", false, () -> x.write(Long.MAX_VALUE));
    Check.due("length after refusals", 0, x::length);
  }

  private static void writeRefusesTooMany() {
    HeadCount x = Check.withText("n=n" + " ".repeat(113));
    Check.due("length 116", 116, x::length);
    Check.due("five more", false, () -> x.write(Check.packed("     ")));
    Check.due("length still 116", 116, x::length);
    Check.due("three more", true, () -> x.write(Check.packed("   ")));
    Check.due("two more, one is room", false, () -> x.write(Check.packed("  ")));
    Check.due("the 120th", true, () -> x.write((long) ' ' << 24));
    Check.due("length 120", 120, x::length);
    Check.due("the 121st", false, () -> x.write(' '));
    Check.due("none more", true, () -> x.write(0));
    Check.due("length still 120", 120, x::length);
    Check.due("read of 120", 0, x::read);
    Check.due("length after read", 0, x::length);
    Check.due("120 of n = n", -1, x::fails);
    Check.due("room again", true, () -> x.write(Check.packed("EX #X=1 ")));
    Check.due("length again", 8, x::length);
    Check.put(x, " ".repeat(112));
    Check.due("wipe of 120", 120, x::wipe);
    Check.due("room after wipe", true, () -> x.write(Check.packed("12345678")));
    Check.due("length after wipe", 8, x::length);
  }

  private static void wipeLeavesTheSentence() {
    HeadCount x = Check.withSentence("n<2");
    Check.put(x, "garbage");
    Check.due("length of garbage", 7, x::length);
    Check.due("wipe of garbage", 7, x::wipe);
    Check.due("length after wipe", 0, x::length);
    Check.due("wipe again", 0, x::wipe);
    Check.due("sentence after wipe", 2, x::fails);
    Check.put(x, "n<");
    Check.put(x, "3");
    Check.due("sentence while writing", 2, x::fails);
    Check.due("read", 0, x::read);
    Check.due("new sentence", 3, x::fails);
  }
}
