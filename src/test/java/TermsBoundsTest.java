/** Each sentence of the document's "Terms" that names a bound or a refusal, on both sides of it. */
final class TermsBoundsTest {
  private TermsBoundsTest() {}

  public static void main(String[] args) {
    atMost120Characters();
    codes32To126();
    blanksMeanNothing();
    oneToThreeDecimals();
    asManyDecimalsAsStandThere();
    numberBeforeColonIsNot0();
    variablesStandWithinTheirOne();
    variablesOfTheOtherKind();
    theOneBehindEndsWhereItEnds();
    theNearestCounts();
    fourAAndEAtMost();
    twelveDeepAtMost();
    whatTakesNothingDeeper();
    worldsFrom0To4();
    numbersFromMinus8To8();
    theEmptySetAndTheSetOfAll();
    zeroDivided();
    lessAndWithin();
    anyNumberOfTimes();
    Check.end();
  }

  /** "a row of at most 120 characters" */
  private static void atMost120Characters() {
    for (int length = 112; length <= 120; length++) {
      String start = "n<" + " ".repeat(length - 3);
      Bounds.is(0, start + "3");
      // the last character is part of the text: with it the sentence is another, without it there is none
      Bounds.says(start + "3", "11100");
      Bounds.says(start + "4", "11110");
      Bounds.isNot(start + " ");
    }
    Untouched full = Untouched.withSentence("n<" + " ".repeat(117) + "3");
    full.refuses("the 121st character", false, () -> full.x.write('9'));
    full.endsAs("", 0, "fails 3 holds 11100 ways 1 1 1 0 0");
  }

  /** "with codes 32 .. 126" */
  private static void codes32To126() {
    for (int code : new int[] {1, 9, 10, 13, 31, 127, 128, 160, 255}) {
      Untouched object = Untouched.withSentence("n<");
      object.refuses("write of code " + code, false, () -> object.x.write(code));
      object.endsAs("3", 0, "fails 3 holds 11100 ways 1 1 1 0 0");
    }
    for (int code = 32; code <= 126; code++) {
      int character = code;
      HeadCount x = Check.withText("n<");
      Check.due("write of code " + code, true, () -> x.write(character));
      Check.due("length with code " + code, 3, x::length);
    }
    Untouched.withSentence("n<").endsAs(" 3 ", 0, "fails 3 holds 11100 ways 1 1 1 0 0");
    Bounds.is(0, "!n<3");
    Bounds.isNot("~n<3");
    Bounds.isNot("n<3~");
  }

  /** "blanks in it mean nothing, wherever they stand" */
  private static void blanksMeanNothing() {
    String bare = "AX(12*#-(X+0)<11+2*n|!2:3*n&[X=0*1])";
    String answers = Check.answers(Check.withSentence(bare));
    Check.due("the bare text", "fails 2 holds 11000 ways 1 2 3 5 5", () -> answers);
    for (int place = 0; place <= bare.length(); place++) {
      for (int blanks = 1; blanks <= 120 - bare.length(); blanks += 41) {
        String text = bare.substring(0, place) + " ".repeat(blanks) + bare.substring(place);
        Check.due(text, answers, () -> Check.answers(Check.withSentence(text)));
      }
    }
    String wide = " " + String.join(" ", bare.split("")) + " ";
    Check.due(wide, answers, () -> Check.answers(Check.withSentence(wide)));
    // they mean nothing, but are characters: the text is as long as it was written
    Check.due("length with blanks", 7, () -> Check.withText(" n < 3 ").length());
    Bounds.isNot(" ");
    Bounds.isNot(" ".repeat(120));
    Bounds.isNot("n _ n");
  }

  /** "number: one to three decimals", wherever the grammar has a number */
  private static void oneToThreeDecimals() {
    String[] places = {"n<@", "@<n", "n=-@", "n+@<n", "n-@<n", "@*n<n", "n=n-@*#1", "@:n", "!@:n", "2:@", "2:@*n", "2:n+@"};
    for (String place : places) {
      Bounds.isNot(place.replace("@", ""));
      for (String decimals : new String[] {"7", "77", "777", "007", "7 7", "7 7 7", "1", "10", "100"}) {
        Bounds.is(0, place.replace("@", decimals));
      }
      for (String decimals : new String[] {"7777", "0007", "7 777", "7 7 7 7", "1000", "77777"}) {
        Bounds.isNot(place.replace("@", decimals));
      }
    }
    Bounds.is(0, "n=0");
    Bounds.is(0, "n=000");
    Bounds.isNot("n=0000");
  }

  /** "as many as stand there, blanks or not between them" */
  private static void asManyDecimalsAsStandThere() {
    Bounds.says("999-998=1", "11111");
    Bounds.says("9 9 9-99 8=1", "11111");
    Bounds.says("1 2=10+2", "11111");
    Bounds.says("00 3=n", "00010");
    Bounds.says("010=8+2", "11111");
    Bounds.says("1 0*n=20", "00100");
    Bounds.says("01 2:4*n", "10010");
    // a set has no numbers: 0 and 1 stand alone there
    Bounds.is(0, "[0=1]");
    Bounds.isNot("[00=1]");
    Bounds.isNot("[0=1 1]");
    Bounds.isNot("[01=1]");
    Bounds.is(0, "#1=n");
    Bounds.isNot("#10=n");
    Bounds.isNot("[2=1]");
    Bounds.isNot("#2=n");
  }

  /** "A number before a colon is not 0." */
  private static void numberBeforeColonIsNot0() {
    String[] around = {"@:n", "!@:n", "(@:n)", "n=n|@:n", "@:n&n=n", "Ei@:i", "AX!@:#X", "@:0"};
    for (String place : around) {
      int quantifiers = place.matches("[AE].*") ? 1 : 0;
      for (String decimals : new String[] {"0", "00", "000", "0 0", "0 0 0"}) {
        Bounds.isNot(place.replace("@", decimals));
      }
      for (String decimals : new String[] {"1", "01", "001", "10", "100", "0 1 0", "999"}) {
        Bounds.is(quantifiers, place.replace("@", decimals));
      }
    }
    // a 0 that no colon follows is a number as others are
    Bounds.says("0=0*n", "11111");
    Bounds.says("000<n", "01111");
    Bounds.says("10:0", "11111");
  }

  /** "Each variable that stands in a part or a single stands within a one that begins with A or E and this variable." */
  private static void variablesStandWithinTheirOne() {
    String[] numberUses = {"@=1", "1=@", "-@<1", "2*@<1", "n+@=1", "n-3*@=1", "2:@", "2:n-@", "!@=1", "(@=1)"};
    String[] setUses = {"#@=1", "1<#-@", "2*#(@)=1", "2:#@", "[@=1]", "[0<@]", "[0+@=1]", "[1*-@=0]", "[(1+@)<1]"};
    for (String v : new String[] {"i", "j", "k"}) {
      for (String use : numberUses) {
        bindingOf(v, use.replace("@", v));
      }
    }
    for (String v : new String[] {"X", "Y", "Z"}) {
      for (String use : setUses) {
        bindingOf(v, use.replace("@", v));
      }
    }
  }

  private static void bindingOf(String v, String use) {
    Bounds.isNot(use);
    Bounds.is(1, "A" + v + use);
    Bounds.is(1, "E" + v + use);
    Bounds.is(1, "E" + v + "!(n=1&(n=2|" + use + "))");
    for (String other : new String[] {"i", "j", "k", "X", "Y", "Z"}) {
      if (!other.equals(v)) {
        Bounds.isNot("A" + other + use);
        Bounds.is(2, "A" + v + "E" + other + use);
        Bounds.is(2, "A" + other + "E" + v + use);
      }
    }
  }

  private static void variablesOfTheOtherKind() {
    for (String v : new String[] {"i", "j", "k"}) {
      Bounds.isNot("A" + v + "#" + v + "=1");
      Bounds.isNot("A" + v + "[" + v + "=1]");
      Bounds.is(1, "A" + v + " n=1");
    }
    for (String v : new String[] {"X", "Y", "Z"}) {
      Bounds.isNot("A" + v + " " + v + "=1");
      Bounds.isNot("A" + v + " 2*" + v + "=1");
      Bounds.isNot("A" + v + " 2:" + v);
      Bounds.is(1, "A" + v + " n=1");
    }
    for (String v : new String[] {"", "n", "0", "1", "x", "I", "W", "l", "h", "A", "#", "("}) {
      Bounds.isNot("A" + v + " n=1");
      Bounds.isNot("E" + v + "(n=1)");
    }
  }

  /** What an A or E binds ends with the one behind it. */
  private static void theOneBehindEndsWhereItEnds() {
    Bounds.is(1, "Ai(i=1&i=1)");
    Bounds.isNot("Ai i=1&i=1");
    Bounds.isNot("Ai(i=1)&i=1");
    Bounds.isNot("Ai!i=1|i=1");
    Bounds.isNot("i=1|Ai i=1");
    Bounds.isNot("(AX[X=1])&[X=1]");
    Bounds.isNot("AX(EY[Y<X]&[Y=0])");
    Bounds.is(2, "AX(EY[Y<X]&[X=0])");
    // the inner one with the same variable has ended, the outer one has not
    Bounds.is(2, "Ai(Ei i=1&i=1)");
    Bounds.isNot("Ai(Ei i=1)&i=1");
    Bounds.is(3, "AX(AX(AX[X=1]&[X=1])&[X=1])");
    Bounds.isNot("AX(AX(AX[X=1]&[X=1]))&[X=1]");
  }

  /** "the nearest A or E with the variable counts" */
  private static void theNearestCounts() {
    Bounds.says("EX AX[X<X]", "11111", "1 2 4 8 16");
    Bounds.says("AX EX#X=1", "01111", "0 2 4 8 16");
    Bounds.says("EX(#X=1&EX#X=0)", "01111", "0 1 2 3 4");
    Bounds.says("EX(EX#X=0&#X=1)", "01111", "0 1 2 3 4");
    Bounds.says("Ei(i=8&Ai i<9&i=8)", "11111", "1 1 1 1 1");
    Bounds.says("Ei(Ai!i=9&i=n)", "11111", "1 1 1 1 1");
    Bounds.says("Ai Ai Ai Ei i=n", "11111", "17 17 17 17 17");
  }

  /** "There are four A and E at most." */
  private static void fourAAndEAtMost() {
    String[] ones = {"Ai i=1", "EX#X=1", "Ej j=1", "AY#Y=1", "Ek k=1"};
    String nested = "";
    String denied = "";
    String besides = "n=1";
    for (int count = 1; count <= 5; count++) {
      String one = ones[count - 1];
      nested += one.substring(0, 2);
      denied += "!" + one.substring(0, 2);
      besides += "|" + one;
      for (String text : new String[] {nested + "n=1", denied + "n=1", besides, besides.replace('|', '&')}) {
        if (count <= 4) {
          Bounds.is(count, text);
        } else {
          Bounds.isNot(text);
        }
      }
    }
    Bounds.is(0, "n=1");
    Bounds.is(4, "AiAiAiAi i=1");
    Bounds.isNot("AiAiAiAiAi i=1");
    Bounds.is(4, "EXEYEZEX[X=0]");
    Bounds.isNot("EXEYEZEX[X=0]|Ai n=1");
    Bounds.is(4, "AiEj n=1|AkEX n=1");
    Bounds.isNot("AiEj n=1|AkEXAY n=1");
    Bounds.isNot("EiEjEkEi".repeat(14) + "n=1");
  }

  /** "at most 12 deep: each !, A, E, (, # or - of a single takes what it begins one deeper, from 0 on" */
  private static void twelveDeepAtMost() {
    for (int others = 0; others <= 14; others++) {
      String not = "!".repeat(others);
      deepOrNot(others, 0, not + "n=n");
      deepOrNot(others, 0, "(".repeat(others) + "n=n" + ")".repeat(others));
      deepOrNot(others, 0, "[" + "-".repeat(others) + "1=0]");
      deepOrNot(others, 0, "[0<" + "(".repeat(others) + "1" + ")".repeat(others) + "]");
      deepOrNot(others + 1, 1, not + "Ai n=n");
      deepOrNot(others + 1, 1, not + "EX n=n");
      deepOrNot(others + 1, 0, not + "(n=n)");
      deepOrNot(others + 1, 0, not + "#1=n");
      deepOrNot(others + 1, 0, not + "n=n-3*#1");
      deepOrNot(others + 1, 0, not + "2:#1");
      deepOrNot(others + 1, 0, not + "[0<0*-1]");
      deepOrNot(others + 1, 0, not + "[0+(1)<0]");
      deepOrNot(others + 2, 0, not + "#-1=n");
      deepOrNot(others + 2, 0, not + "#(0+1)=n");
      deepOrNot(others + 3, 0, not + "#(0+-1)=n");
      deepOrNot(others + 4, 4, not + "AXEiAYEj n=n");
      deepOrNot(others + 7, 2, not + "EX(AY(#-(X+Y)=n))");
      deepOrNot(others, 0, "n=n|" + not + "n=n&n=n");
      deepOrNot(others, 0, "n=#1&" + not + "n=n");
    }
  }

  private static void deepOrNot(int depth, int quantifiers, String text) {
    if (depth <= 12) {
      Bounds.is(quantifiers, text);
    } else {
      Bounds.isNot(text);
    }
  }

  /** What stands beside one another is not in one another, and no other sign goes deeper. */
  private static void whatTakesNothingDeeper() {
    String not = "!".repeat(12);
    Bounds.is(0, not + "-n=-1-2*n");
    Bounds.isNot("!" + not + "-n=-1-2*n");
    Bounds.is(0, not + "[0+1*0<1]");
    Bounds.is(0, "!".repeat(11) + "-#1=-#0-2*#1");
    Bounds.isNot(not + "-#1=-#0-2*#1");
    Bounds.is(0, not + "2:-n-3");
    Bounds.is(0, not + "n<1|" + not + "n<2&" + not + "n<3");
    Bounds.is(0, "n<1" + "|n<3&n<4".repeat(13));
    Bounds.is(0, "(n=1)" + "|(n=1)".repeat(13));
    Bounds.is(0, "n=#1" + "+#1".repeat(13));
    Bounds.is(0, "n=1" + "-1".repeat(13));
    Bounds.is(0, "[0=-1" + "+-1".repeat(13) + "]");
    Bounds.is(0, "[0=(1)" + "*(1)".repeat(13) + "]");
  }

  /** "A WORLD has n elements, n from 0 to 4." */
  private static void worldsFrom0To4() {
    Bounds.says("n=0", "10000");
    Bounds.says("n=1", "01000");
    Bounds.says("n=2", "00100");
    Bounds.says("n=3", "00010");
    Bounds.says("n=4", "00001");
    Bounds.says("-1<n&n<5", "11111");
    Bounds.says("#1=n", "11111");
    for (int n : new int[] {-1, 5, -5, 8, 16, 256, Integer.MIN_VALUE, Integer.MAX_VALUE}) {
      for (Untouched object : new Untouched[] {Untouched.withSentence("n<"), Untouched.askedBefore("n<")}) {
        object.refuses("holds(" + n + ")", "throws.IllegalArgumentException", () -> object.x.holds(n));
        object.refuses("ways(" + n + ")", "throws.IllegalArgumentException", () -> object.x.ways(n));
        object.endsAs("3", 0, "fails 3 holds 11100 ways 1 1 1 0 0");
      }
    }
  }

  /** "i, j, k for whole numbers from -8 to 8" */
  private static void numbersFromMinus8To8() {
    for (String v : new String[] {"i", "j", "k"}) {
      Bounds.says("E@ @=-8".replace("@", v), "11111", "1 1 1 1 1");
      Bounds.says("E@ @=8".replace("@", v), "11111", "1 1 1 1 1");
      Bounds.says("E@ @=-9".replace("@", v), "00000", "0 0 0 0 0");
      Bounds.says("E@ @=9".replace("@", v), "00000", "0 0 0 0 0");
      Bounds.says("A@(-9<@&@<9)".replace("@", v), "11111", "17 17 17 17 17");
      Bounds.says("A@ -8<@".replace("@", v), "00000", "16 16 16 16 16");
      Bounds.says("A@ @<8".replace("@", v), "00000", "16 16 16 16 16");
      Bounds.says("E@ n=@".replace("@", v), "11111", "1 1 1 1 1");
      Bounds.says("E@ 2*@=1".replace("@", v), "00000", "0 0 0 0 0");
      // the same where it is not the first: no count of ways tells it there
      Bounds.says("!E@ @<-8&E@ @<-7".replace("@", v), "11111");
      Bounds.says("!E@ 8<@&E@ 7<@".replace("@", v), "11111");
      Bounds.says("!A@ -8<@&A@ -9<@".replace("@", v), "11111");
      Bounds.says("!A@ @<8&A@ @<9".replace("@", v), "11111");
    }
  }

  /** "0 is the empty set, 1 has all elements" */
  private static void theEmptySetAndTheSetOfAll() {
    Bounds.says("#0=0&#1=n", "11111");
    Bounds.says("[0=1]", "10000");
    Bounds.says("[-0=1]&[-1=0]", "11111");
    Bounds.says("[0+1=1]&[0*1=0]", "11111");
    Bounds.says("[0+0=0]&[1*1=1]", "11111");
    Bounds.says("[1+1=1]&[0*0=0]", "11111");
    Bounds.says("[1+1+0=1]&[0*1*1=0]", "11111");
    Bounds.says("[1<0]", "10000");
    for (String v : new String[] {"X", "Y", "Z"}) {
      Bounds.says("E@[@=0]".replace("@", v), "11111", "1 1 1 1 1");
      Bounds.says("E@[@=1]".replace("@", v), "11111", "1 1 1 1 1");
      Bounds.says("A@([0<@]&[@<1])".replace("@", v), "11111", "1 2 4 8 16");
      Bounds.says("A@ 0<#@".replace("@", v), "00000", "0 1 3 7 15");
      Bounds.says("A@ #@<n".replace("@", v), "00000", "0 1 3 7 15");
      Bounds.says("A@([@+-@=1]&[@*-@=0]&#@+#-@=n)".replace("@", v), "11111", "1 2 4 8 16");
      Bounds.says("E@(![@=0]&![@=1])".replace("@", v), "00111", "0 0 2 6 14");
      Bounds.says("!E@ #@<0&!E@ n<#@".replace("@", v), "11111");
      Bounds.says("!A@ 0<#@&!A@ #@<n".replace("@", v), "11111");
    }
  }

  /** "the number divides the sum (0 too)" */
  private static void zeroDivided() {
    for (String number : new String[] {"1", "2", "8", "10", "999"}) {
      Bounds.says(number + ":0", "11111");
      Bounds.says(number + ":-0", "11111");
      Bounds.says(number + ":n-n", "11111");
      Bounds.says(number + ":0*#1", "11111");
      Bounds.says(number + ":#0", "11111");
    }
    Bounds.says("1:n", "11111");
    Bounds.says("4:n", "10001");
    Bounds.says("5:n", "10000");
    Bounds.says("999:n", "10000");
    Bounds.says("999:999*n", "11111");
    Bounds.says("999:998*n", "10000");
    Bounds.says("3:-n", "10010");
    Bounds.says("3:1-n", "01001");
    Bounds.says("Ei 8:i", "11111", "3 3 3 3 3");
    Bounds.says("Ei 9:i", "11111", "1 1 1 1 1");
    Bounds.says("Ai 1:i", "11111", "17 17 17 17 17");
  }

  /** "< between sums: less; between sets: all elements of the first are in the second" */
  private static void lessAndWithin() {
    Bounds.says("n<n", "00000");
    Bounds.says("n<n+1", "11111");
    Bounds.says("n+1<n", "00000");
    Bounds.says("-1<0", "11111");
    Bounds.says("0<-1", "00000");
    Bounds.says("2<n", "00011");
    Bounds.says("n<2", "11000");
    Bounds.says("[0<0]&[1<1]", "11111");
    Bounds.says("AX[X<X]", "11111", "1 2 4 8 16");
    Bounds.says("EX[X<0]", "11111", "1 1 1 1 1");
    Bounds.says("EX[1<X]", "11111", "1 1 1 1 1");
    Bounds.says("EXAY([X<Y]|[Y<X])", "11111", "1 2 2 2 2");
  }

  /** "and any number of times": as many as the text has room for, the last of them too; none behind a sign is refused */
  private static void anyNumberOfTimes() {
    rowOf("n=9", "|n=9", "|n=4", "", "00001");
    rowOf("n<9", "&n<9", "&n<4", "", "11110");
    rowOf("n<0", "+0", "+3", "", "11100");
    rowOf("n<9", "-0", "-6", "", "11100");
    rowOf("2:0", "+2", "-n", "", "10101");
    rowOf("[0=0", "+0", "+1", "]", "10000");
    rowOf("[0=1", "*1", "*0", "]", "11111");
  }

  private static void rowOf(String first, String more, String last, String end, String truth) {
    int times = (120 - first.length() - last.length() - end.length()) / more.length();
    Bounds.says(first + last + end, truth);
    Bounds.says(first + more.repeat(times) + last + end, truth);
    Bounds.isNot(first + last.charAt(0) + end);
    Bounds.isNot(first + more.repeat(times) + last.charAt(0) + end);
  }
}
