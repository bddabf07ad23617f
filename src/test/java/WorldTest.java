/** Promises 5, 6 and 7: holds, fails and ways, and what each sign means. */
final class WorldTest {
  private static final String ISE = "throws.IllegalStateException";
  private static final String IAE = "throws.IllegalArgumentException";

  /** A sentence and the ways in the worlds 0 to 4, where it has no leading A or E: its truth there. */
  private static final String[] PLAIN = {
    "11111 n=n", "00000 n<n", "10000 n=0", "00001 n=4", "11000 n<2", "00011 2<n", "01000 n=001", "11111 1 2<1 3",
    "11100 -3+2*n<n", "11111 #1=n", "11111 #0=0", "11111 #-1=0", "11111 #-0=n", "00100 2*n=4", "00010 10-3*n=1",
    "11111 n-n-n=-n", "11111 10-3-2=5", "11111 -10+3=-7", "11111 -1<0", "00000 0<-1", "11110 999*n<998*n+4", "00001 2*n+990<250*n",
    "10101 2:n", "01010 2:n+1", "10010 3:n", "10010 3:-n", "01001 3:n-4", "11111 1:n", "10000 999:n", "11111 7:0", "11111 2:-4",
    "00000 2:-3", "11111 3:n|3:n-1|3:n+1", "10001 4:n",
    "11111 [0<1]", "10000 [1<0]", "10000 [0=1]", "11111 [0<0]", "11111 [1<1]", "11111 [-1=0]", "11111 [-0=1]", "11111 [--1=1]",
    "11111 [0+1=1]", "11111 [0*1=0]", "11111 [1+1*0=1]", "10000 [(1+1)*0=1]", "11111 [-0*0=0]", "10000 [-(0*0)=0]",
    "11111 [0+0+1=1*1*1]", "11111 [0=1*0*1]",
    "00000 !n=n", "11111 !!n=n", "01111 !n=0", "00110 !n<2&n<4", "11110 !(3<n)", "01010 n=1|n=3", "00000 n=1&n=3",
    "11000 n=0|n=1&n<3", "01000 (n=0|n=1)&0<n", "11001 n=0|n=1&n<3|n=4", "10111 !n=1", "00111 !n=1&!n=0", "10000 !(n=1|!n=0)",
    "01111 (EX#X=1)", "11111 (Ai i=i)", "00000 !Ai i=i", "01111 !!EX#X=1", "11111 EX#X=0&EX#X=0", "10000 AX#X=0|AX#X=1",
    "11111 n=n|EX#X=9", "11111 EX#X=9|n=n", "01111 EX#X=1&n=n",
    "00000 (Ei(i<-8|8<i))", "11111 (Ei i=-8)&(Ei i=8)", "11111 !!(Ai(-9<i&i<9))", "00000 (Ei i=9)", "11111 !(Ei i=-9)",
    "11111 (Ai(Ej i=j&Aj(-9<j)&i=i))", "11111 (Ei(i=3&(Ei i=5)&i=3))", "11111 (EX([X=0]&(AX[X<1])&[X=0]))",
    "00000 (Ei(i=3&(Ai i<9)&!i=3))", "11111 (EX(Ei(i=#X)&#X=0&Ai(!i=9)))",
  };

  /** A sentence with a leading A or E, truth in the worlds 0 to 4, and the ways there. */
  private static final String[][] LEADING = {
    {"EX #X=2", "00111", "0 0 1 3 6"}, {"AX #X=2", "00000", "0 0 1 3 6"}, {"AX #X<4", "11110", "1 2 4 8 15"},
    {"EX [X=X]", "11111", "1 2 4 8 16"}, {"AX [X=X]", "11111", "1 2 4 8 16"}, {"EX n<0", "00000", "0 0 0 0 0"},
    {"AX n<3", "11100", "1 2 4 0 0"}, {"Ei i=n", "11111", "1 1 1 1 1"}, {"Ai i<n", "00000", "8 9 10 11 12"},
    {"Ai i=i", "11111", "17 17 17 17 17"}, {"Ai n=1", "01000", "0 17 0 0 0"}, {"Ek 2:k", "11111", "9 9 9 9 9"},
    {"Ej 3:j-n", "11111", "5 6 6 5 6"}, {"Aj 3:-j", "00000", "5 5 5 5 5"}, {"E k 9 9 9 : k", "11111", "1 1 1 1 1"},
    {"AY AZ [Y<Z]", "10000", "1 1 1 1 1"}, {"AZ EY [-Y=Z]", "11111", "1 2 4 8 16"}, {"EZ AY [Y<Z]", "11111", "1 1 1 1 1"},
    {"EX EX #X=1", "01111", "0 2 4 8 16"}, {"AX EX #X=1", "01111", "0 2 4 8 16"}, {"Ei Ai i=i", "11111", "17 17 17 17 17"},
    {"EX(#X=1&EX(#X=0)&#X=1)", "01111", "0 1 2 3 4"}, {"Ei(Ei i=8&i=1)", "11111", "1 1 1 1 1"},
    {"Ei(i=1&Ai(-9<i)&i=1)", "11111", "1 1 1 1 1"}, {"EX !EY(#Y<#X)", "11111", "1 1 1 1 1"},
    {"EX(EY([X*Y=0]&#X=#Y&[X+Y=1]))", "10101", "1 0 2 0 6"}, {"EX EY EZ ([X*Y*Z=0]&[X+Y+Z=1]&#X=n)", "11111", "1 1 1 1 1"},
    {"EX EY EZ Ei (#X=i&[Y<Z]&![Z=1])", "01111", "0 2 4 8 16"}, {"EX 2*#X=n", "10101", "1 0 2 0 6"},
    {"EX #X-#-X=1", "01010", "0 1 0 3 0"}, {"EX #(X*-X+1)=n", "11111", "1 2 4 8 16"}, {"AX #(X)+#-X=n", "11111", "1 2 4 8 16"},
    {"AX !#X=n", "00000", "0 1 3 7 15"}, {"AX(!#X=n)", "00000", "0 1 3 7 15"}, {"EXAY([Y<X]|[X<Y])", "11111", "1 2 2 2 2"},
    {"Ai Aj Ak Ai i+j+k<25", "11111", "17 17 17 17 17"}, {"Ai Aj Ak i+j+k<24", "00000", "16 16 16 16 16"},
    {"Ei Ej Ek i+j+k=24", "11111", "1 1 1 1 1"}, {"Ei Ej 999*i-999*j=999" + "+999".repeat(15), "11111", "1 1 1 1 1"},
  };

  private WorldTest() {}

  public static void main(String[] args) {
    for (String row : PLAIN) {
      String[] ways = row.substring(0, 5).split("");
      look(row.substring(6), row.substring(0, 5), ways);
    }
    for (String[] row : LEADING) {
      look(row[0], row[1], row[2].split(" "));
    }
    wrongWorlds();
    answersChangeNothing();
    Check.end();
  }

  private static void look(String text, String truth, String[] ways) {
    HeadCount x = Check.withSentence(text);
    for (int n = 4; n >= 0; n--) {
      int size = n;
      boolean holds = truth.charAt(n) == '1';
      Check.due(text + ": holds " + n, holds, () -> x.holds(size));
      Check.due(text + ": ways " + n, ways[n], () -> x.ways(size));
      // an object of its own for each, so that the answer does not lean on an earlier one
      Check.due(text + ": ways " + n + " first", ways[n], () -> Check.withSentence(text).ways(size));
      Check.due(text + ": holds " + n + " first", holds, () -> Check.withSentence(text).holds(size));
    }
    Check.due(text + ": fails", truth.indexOf('0'), x::fails);
    Check.due(text + ": fails first", truth.indexOf('0'), () -> Check.withSentence(text).fails());
  }

  private static void wrongWorlds() {
    int[] wrong = {-1, 5, 6, -4, 32, Integer.MIN_VALUE, Integer.MAX_VALUE};
    for (int n : wrong) {
      HeadCount x = Check.withSentence("n=n");
      Check.due("holds " + n, IAE, () -> x.holds(n));
      Check.due("ways " + n, IAE, () -> x.ways(n));
      Check.due("fails after " + n, -1, x::fails);
      Check.due("holds " + n + " without a sentence", ISE, () -> new HeadCount().holds(n));
      Check.due("ways " + n + " without a sentence", ISE, () -> new HeadCount().ways(n));
    }
    HeadCount x = Check.withText("n=n");
    Check.due("holds of a text not read", ISE, () -> x.holds(0));
    Check.due("ways of a text not read", ISE, () -> x.ways(0));
    Check.due("fails of a text not read", ISE, x::fails);
  }

  private static void answersChangeNothing() {
    HeadCount x = Check.withSentence("AX#X<3");
    HeadCount other = Check.withSentence("AX#X<2");
    Check.put(x, "n<1");
    for (int round = 0; round < 3; round++) {
      Check.due("fails of the one", 3, x::fails);
      Check.due("fails of the other", 2, other::fails);
      Check.due("ways of the one", 11, () -> x.ways(4));
      Check.due("ways of the other", 5, () -> other.ways(4));
      Check.due("holds of the one", true, () -> x.holds(2));
      Check.due("length of the one", 3, x::length);
    }
    Check.due("read of the one", 0, x::read);
    Check.due("fails of the one, new sentence", 1, x::fails);
    Check.due("ways of the one, new sentence", 0, () -> x.ways(4));
    Check.due("fails of the other, as before", 2, other::fails);
  }
}
