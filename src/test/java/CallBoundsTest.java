/** Each sentence of the promises 1 to 8 that names a boundary case, on both sides of it, and each refused call. */
final class CallBoundsTest {
  private static final String ISE = "throws.IllegalStateException";
  private static final String IAE = "throws.IllegalArgumentException";
  private static final String THREE = "fails 3 holds 11100 ways 1 1 1 0 0";

  private CallBoundsTest() {}

  public static void main(String[] args) {
    newObjectHasNoTextAndNoSentence();
    objectsShareNothing();
    writeLeavesBytesOf0Out();
    writeRefusesACodeInEachPlace();
    writeRefusesMoreThan120();
    wipeOfEmptyAndFull();
    readRefusesAndChangesNothing();
    readForgetsWhatItRefused();
    readEmptiesTheText();
    holdsRefuses();
    failsFromMinus1To4();
    waysWithAndWithoutLeadingAOrE();
    waysRefuses();
    lengthOfEmptyAndFull();
    lengthAfterRefusedCalls();
    Check.end();
  }

  /** Promise 1: "An empty text, no sentence." */
  private static void newObjectHasNoTextAndNoSentence() {
    Check.due("new: length", 0, () -> new HeadCount().length());
    Check.due("new: wipe", 0, () -> new HeadCount().wipe());
    Check.due("new: the sentence", Untouched.NO_ANSWERS, () -> Check.answers(new HeadCount()));
    Check.due("new: read", IAE, () -> new HeadCount().read());
    Untouched.withoutSentence("").endsAs("n<3", 0, THREE);
    // a text alone is no sentence, and a text that was wiped neither
    Untouched object = Untouched.withoutSentence("n<3");
    object.refuses("holds of a text not read", ISE, () -> object.x.holds(0));
    object.wipes();
    HeadCount wiped = Check.withText("n<3");
    Check.due("wipe of a text not read", 3, wiped::wipe);
    Check.due("no sentence after wipe", Untouched.NO_ANSWERS, () -> Check.answers(wiped));
  }

  private static void objectsShareNothing() {
    HeadCount one = Check.withSentence("n<3");
    Check.put(one, "n<");
    HeadCount other = new HeadCount();
    Check.due("another new: length", 0, other::length);
    Check.due("another new: the sentence", Untouched.NO_ANSWERS, () -> Check.answers(other));
    Check.put(other, "EX#X=2");
    Check.due("another new: read", 1, other::read);
    Check.due("the one: length", 2, one::length);
    Check.due("the one: the sentence", THREE, () -> Check.answers(one));
    Check.due("the other: the sentence", Untouched.ANSWERS, () -> Check.answers(other));
    Check.put(other, "EX#X");
    Check.put(one, "4");
    Check.due("the one: read", 0, one::read);
    Check.due("the one: the new sentence", 4, one::fails);
  }

  /** Promise 2: "up to eight characters ...: the bytes of the long, from the lowest on, but for those that are 0" */
  private static void writeLeavesBytesOf0Out() {
    for (Untouched object : Untouched.ofEachKind("n<")) {
      Check.due("write of none", true, () -> object.x.write(0));
      Check.due("length after none", 2, object.x::length);
      object.endsAs("3", 0, THREE);
    }
    for (int taken = 0; taken < 256; taken++) {
      writesDecimals(taken);
    }
    HeadCount x = new HeadCount();
    Check.due("eight at once", true, () -> x.write(Check.packed("10*n<012")));
    Check.due("length of eight", 8, x::length);
    Check.due("read of eight", 0, x::read);
    Check.due("10*n<12", "fails 2 holds 11000 ways 1 1 0 0 0", () -> Check.answers(x));
  }

  /** Writes a decimal at each place whose bit is set, and compares what stands there then with the same number. */
  private static void writesDecimals(int places) {
    long characters = 0;
    StringBuilder number = new StringBuilder();
    for (int place = 0; place < 8; place++) {
      if ((places >> place & 1) != 0) {
        characters |= (long) ('1' + place) << (8 * place);
        number.append(place + 1);
      }
    }
    long written = characters;
    int count = number.length();
    boolean isNumber = count >= 1 && count <= 3;
    HeadCount x = new HeadCount();
    Check.due("write of " + number, true, () -> x.write(written));
    Check.due("length of " + number, count, x::length);
    Check.put(x, "=" + number);
    Check.due("read of " + number, isNumber ? 0 : IAE, x::read);
    Check.due(number + " is what was written", isNumber ? -1 : ISE, x::fails);
  }

  /** Promise 2: "False, adding nothing, if one is not 32 .. 126" */
  private static void writeRefusesACodeInEachPlace() {
    for (int code : new int[] {1, 31, 32, 126, 127, 128, 255}) {
      for (int place = 0; place < 8; place++) {
        long alone = (long) code << (8 * place);
        long amongOthers = 0x3131313131313131L & ~(0xFFL << (8 * place)) | alone;
        if (code == 32 || code == 126) {
          HeadCount x = Check.withText("n<");
          Check.due("code " + code + " at " + place, true, () -> x.write(alone));
          Check.due("code " + code + " at " + place + " among others", true, () -> x.write(amongOthers));
          Check.due("length with code " + code + " at " + place, 11, x::length);
        } else {
          refusesWrites("n<", "3", alone, amongOthers);
        }
      }
    }
    refusesWrites("n<", "3", -1L, Long.MIN_VALUE, Long.MAX_VALUE, 0x8080808080808080L);
  }

  private static void refusesWrites(String text, String rest, long... refused) {
    for (Untouched object : Untouched.ofEachKind(text)) {
      for (long characters : refused) {
        object.refuses("write(" + characters + ")", false, () -> object.x.write(characters));
      }
      object.endsAs(rest, 0, THREE);
    }
  }

  /** Promise 2: "False, adding nothing, if ... they would be more than 120." */
  private static void writeRefusesMoreThan120() {
    for (int room = 0; room <= 8; room++) {
      String text = " ".repeat(118 - room) + "n<";
      for (int more = 0; more <= 8; more++) {
        // the lowest would still have room, but all are refused together
        long characters = more == 0 ? 0 : 0x3939393939393939L >>> (8 * (8 - more));
        if (more > room && room > 0) {
          refusesWrites(text, "3", characters);
        } else if (more <= room) {
          HeadCount x = Check.withText(text);
          Check.due(more + " of " + room, true, () -> x.write(characters));
          Check.due("length with " + more + " of " + room, 120 - room + more, x::length);
        }
      }
    }
    String full = "n<3" + " ".repeat(117);
    refusesWrites(full, "", ' ', (long) ' ' << 56, '9', 0x3939393939393939L, -1L, 0x1FL);
    Check.due("none more when full", true, () -> Check.withText(full).write(0));
    HeadCount x = Check.withText(full);
    Check.due("read when full", 0, x::read);
    Check.due("room again after read", true, () -> x.write(Check.packed("12345678")));
    Check.due("length after read and write", 8, x::length);
  }

  /** Promise 3: a text that is empty, and one that is full. */
  private static void wipeOfEmptyAndFull() {
    for (int length : new int[] {0, 1, 8, 119, 120}) {
      for (Untouched object : Untouched.ofEachKind("n".repeat(length))) {
        object.wipes();
      }
      for (Untouched object : new Untouched[] {Untouched.withSentence(""), Untouched.askedBefore("")}) {
        Check.put(object.x, "n".repeat(length));
        Check.due("wipe of " + length, length, object.x::wipe);
        Check.due("wipe of none", 0, object.x::wipe);
        Check.due("length when wiped", 0, object.x::length);
        Check.due("the sentence when wiped", Untouched.ANSWERS, () -> Check.answers(object.x));
        object.refusesRead("a wiped text");
      }
    }
    // what was wiped does not come back
    HeadCount x = Check.withText("n<");
    Check.due("wipe of two", 2, x::wipe);
    Check.put(x, "3");
    Check.due("length of the rest", 1, x::length);
    Check.due("read of the rest", IAE, x::read);
    Check.due("wipe of the rest", 1, x::wipe);
    Check.put(x, " ".repeat(117) + "n<3");
    Check.due("room for 120 again", 120, x::length);
    Check.due("read of 120", 0, x::read);
  }

  /** Promise 4: "Illegal argument: it is no sentence (the text and the sentence stay as they were)." */
  private static void readRefusesAndChangesNothing() {
    String[][] begunAndRest = {
      {"", "n<3"}, {" ", "n<3"}, {"n", "<3"}, {"n<", "3"}, {"n<3|", "n<3"}, {"n<3&", "n<3"}, {"(n<3", ")"}, {"!", "!n<3"},
      {"!(!n<3", ")"}, {"n<3-", "0"}, {"1:0&n<", "003"}, {"[0=0", "]&n<3"}, {"#1", "<3"}, {"#", "-0<3"}, {"#(1+", "0)<3"},
    };
    for (String[] pair : begunAndRest) {
      for (Untouched object : Untouched.ofEachKind(pair[0])) {
        object.refusesRead(pair[0]);
        object.refusesRead(pair[0] + " again");
        object.endsAs(pair[1], 0, THREE);
      }
    }
    for (Untouched object : Untouched.ofEachKind("AiAjAkEX(i<j|#X=2&i=k|j+k<")) {
      object.refusesRead("four A and E begun");
      object.endsAs("17)", 4, "fails -1 holds 11111 ways 17 17 17 17 17");
    }
    String[] never = {
      "n", "n<3)", "(n<3))", "n<3]", "[0<1", "[(0<1]", "#(1<3", "#1)<3", "0:n", "i=1", "AiAjAkAXAY n=n",
      "!".repeat(13) + "n=n", "n".repeat(120),
    };
    for (String text : never) {
      Bounds.isNot(text);
    }
  }

  /** What was met in a refused text (A and E, variables, depth) does not count in the next. */
  private static void readForgetsWhatItRefused() {
    String[] texts = {"AiAjAkEX", "AiAXAj(i=1", "EXEYEZEi(#X=1&", "!".repeat(14), "EX(((((((((((", "AiAjAkAiAj"};
    for (String refused : texts) {
      for (Untouched object : Untouched.ofEachKind(refused)) {
        object.refusesRead(refused);
        Check.due("wipe of " + refused, refused.length(), object.x::wipe);
        Check.put(object.x, "i=1|#X=1");
        Check.due("free variables after " + refused, IAE, object.x::read);
        Check.due("wipe of free variables", 8, object.x::wipe);
        Check.put(object.x, "!".repeat(8) + "EXEYEZEi n<3");
        Check.due("four A and E, twelve deep, after " + refused, 4, object.x::read);
      }
    }
    HeadCount x = Check.withSentence("AiEX n<3");
    Check.put(x, "i=#X");
    Check.due("free variables after a sentence with them", IAE, x::read);
  }

  /** Promise 4: "Reads the text, which is empty then: the sentence from now on. How many A and E it has." */
  private static void readEmptiesTheText() {
    String[] texts = {"n<3", "Ai n<3", "AiEj n<3", "AiEjAX n<3", "AiEjAXEY n<3"};
    for (int quantifiers = 0; quantifiers <= 4; quantifiers++) {
      for (Untouched object : Untouched.ofEachKind(texts[quantifiers])) {
        Check.due("read of " + texts[quantifiers], quantifiers, object.x::read);
        Check.due("length after read", 0, object.x::length);
        Check.due("wipe after read", 0, object.x::wipe);
        Check.due("fails after read", 3, object.x::fails);
        Check.due("read of nothing", IAE, object.x::read);
        Check.due("fails after read of nothing", 3, object.x::fails);
      }
    }
  }

  /** Promise 5: "Illegal state: there is no sentence; illegal argument: n is not 0 .. 4." */
  private static void holdsRefuses() {
    for (Untouched object : Untouched.ofEachKind("n<")) {
      boolean none = Check.answers(object.x).equals(Untouched.NO_ANSWERS);
      for (int n : new int[] {Integer.MIN_VALUE, -2, -1, 5, 6, 260, Integer.MAX_VALUE}) {
        object.refuses("holds(" + n + ")", none ? ISE : IAE, () -> object.x.holds(n));
      }
      Check.due("holds(0)", none ? ISE : false, () -> object.x.holds(0));
      Check.due("holds(4)", none ? ISE : true, () -> object.x.holds(4));
      object.endsAs("3", 0, THREE);
    }
  }

  /** Promise 6: "The least n with a world in which the sentence is not true; -1 if there is none." */
  private static void failsFromMinus1To4() {
    for (int n = 0; n <= 5; n++) {
      int least = n == 5 ? -1 : n;
      Check.due("fails of n<" + n, least, Check.withSentence("n<" + n)::fails);
      Check.due("fails of AX#X<" + n, least, Check.withSentence("AX#X<" + n)::fails);
      Check.due("fails of not n=" + n, least, Check.withSentence("!n=" + n)::fails);
      Check.due("fails of Ai!" + n + "=n", least, Check.withSentence("Ai!" + n + "=n")::fails);
    }
    Check.due("the least of several", 1, Check.withSentence("n=0|n=2|n=4")::fails);
    Check.due("true in the greatest alone", 0, Check.withSentence("n=4")::fails);
    for (String text : new String[] {"", "n<"}) {
      Untouched object = Untouched.withoutSentence(text);
      object.refuses("fails", ISE, object.x::fails);
      object.endsAs("n<3".substring(text.length()), 0, THREE);
    }
  }

  /** Promise 7: "If the whole sentence is a one that begins with A or E ...; otherwise 1 or 0" */
  private static void waysWithAndWithoutLeadingAOrE() {
    Bounds.says("EX#X=1", "01111", "0 1 2 3 4");
    Bounds.says("AX#X=1", "00000", "0 1 2 3 4");
    Bounds.says("EX(#X=1)", "01111", "0 1 2 3 4");
    Bounds.says("EX!#X=1", "11111", "1 1 2 5 12");
    Bounds.says("AX n=2", "00100", "0 0 4 0 0");
    Bounds.says("EX AY[X<Y]", "11111", "1 1 1 1 1");
    Bounds.says("Ei(i=n|i=-1)", "11111", "2 2 2 2 2");
    Bounds.says("Ai i<n", "00000", "8 9 10 11 12");
    Bounds.says("!EX#X=1", "10000");
    Bounds.says("!AX#X=1", "11111");
    Bounds.says("(EX#X=1)", "01111");
    Bounds.says("EX#X=1&n=n", "01111");
    Bounds.says("EX#X=1|n<0", "01111");
    Bounds.says("n=n&EX#X=1", "01111");
    Bounds.says("AX#X=1|EX#X=1", "01111");
    Bounds.says("n=2", "00100");
    Bounds.says("[0=1]", "10000");
    Bounds.says("2:n", "10101");
  }

  /** Promise 7: "Illegal state: there is no sentence; illegal argument: n is not 0 .. 4." */
  private static void waysRefuses() {
    for (Untouched object : Untouched.ofEachKind("n<")) {
      boolean none = Check.answers(object.x).equals(Untouched.NO_ANSWERS);
      for (int n : new int[] {Integer.MIN_VALUE, -2, -1, 5, 6, 260, Integer.MAX_VALUE}) {
        object.refuses("ways(" + n + ")", none ? ISE : IAE, () -> object.x.ways(n));
      }
      Check.due("ways(0)", none ? ISE : 0, () -> object.x.ways(0));
      Check.due("ways(4)", none ? ISE : 6, () -> object.x.ways(4));
      object.endsAs("3", 0, THREE);
    }
  }

  /** Promise 8: a text that is empty, and one that is full. */
  private static void lengthOfEmptyAndFull() {
    HeadCount x = new HeadCount();
    for (int length = 0; length <= 120; length++) {
      int due = length;
      Check.due("length " + length, due, x::length);
      Check.due("length " + length + " again", due, x::length);
      Check.due("one more than " + length, length < 120, () -> x.write('n'));
    }
    Check.due("length of a full text", 120, x::length);
    Check.due("wipe of a full text", 120, x::wipe);
    Check.due("length of a wiped text", 0, x::length);
    Check.due("length of blanks", 120, () -> Check.withText(" ".repeat(120)).length());
  }

  /** Promise 8: after refused calls of each kind, on a text that is empty, begun and full. */
  private static void lengthAfterRefusedCalls() {
    for (int length : new int[] {0, 1, 119, 120}) {
      for (Untouched object : Untouched.ofEachKind("n".repeat(length))) {
        boolean none = Check.answers(object.x).equals(Untouched.NO_ANSWERS);
        object.refuses("write of code 31", false, () -> object.x.write(31));
        object.refuses("write of code 127", false, () -> object.x.write(127));
        if (length > 112) {
          object.refuses("write of too many", false, () -> object.x.write(0x2020202020202020L));
        }
        object.refusesRead("n, " + length + " times");
        object.refuses("holds(-1)", none ? ISE : IAE, () -> object.x.holds(-1));
        object.refuses("ways(5)", none ? ISE : IAE, () -> object.x.ways(5));
        if (none) {
          object.refuses("fails", ISE, object.x::fails);
        }
        object.wipes();
      }
    }
  }
}
