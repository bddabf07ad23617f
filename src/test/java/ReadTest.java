/** Promise 4: what is a sentence and what is not, and what read leaves behind. */
final class ReadTest {
  private static final String REFUSED = "throws.IllegalArgumentException";

  private static final String[] SENTENCES = {
    "0 n=n", "0 1<2", "0 1 < 2", "0 - 3 < n", "0 -n=-n", "0 -3+2*n-#1+#0<999", "0 000=0", "0 012=12", "0 1 2 3 = 123",
    "0 1*n=n", "0 0*#(1*0)=0", "0 2:3", "0 2 : - 3 + n", "0 0 0 1 : n", "0 999:n", "0 1:0", "0 12 3:45 6",
    "0 [0<1]", "0 [ 0 = 1 ]", "0 [0+1*0+(1)<-0*-(1+0)]", "0 [-1=0]", "0 [--1=1]", "0 #-1=0", "0 #--1-#-0=0",
    "0 -#-1=0", "0 #1-n=0", "0 #0<#1", "0 #(0)<2*#(1)",
    "0 !n=n", "0 !!n=n", "0 (n=n)", "0 ((n=n))", "0 !(n=1|n=2)&n<3|n=4", "0 n=1&n=2|n=3&!n=4", "0 !(!(!(n=0)))",
    "0 !2:n", "0 2:n|3:n&[0=1]",
    "1 AX #X<9", "1 EX#X=n", "1 A X # X < 9", "1 Ai i=i", "2 EkAXk=k", "2 AiAj i<j", "2 Ai Ei i=1", "1 AXn=n",
    "1 Ei 2*i=n", "1 Ei(i=0)", "1 Ei!i=0", "1 Ei!(i=0|i=1)", "2 Ei(Aj j=j & i=1)", "1 Ei 2:i", "1 EX[X=0]",
    "1 EY[-Y*(Y+1)<0]", "1 EZ #-Z = 1", "2 EX[X=0]&EX[X=1]", "4 EXEYEZEi i=1", "4 AiAiAiAi i=1", "4 !Ai!Ej!Ak!EX i+j+k=#X",
    "4 Ei i=1|Ej j=1|Ek k=1|EX#X=1", "3 EX(EX[X=0]&EX[X=1]&[X=X])", "1 !Ai i=0", "0 n=n|n=n|n=n&n=n&n=n",
  };

  private static final String[] NO_SENTENCES = {
    "", " ", "n", "1", "=", "n=", "=n", "n==n", "n<=n", "n>n", "n=n=n", "n<n<n", "1000=1", "1 0 0 0=1", "0000=0", "n=1000",
    "1000*n=1", "1000:n", "0:n", "00:n", "0 0 0:n", "0:0", "2:", ":n", "2:n=n", "2:3:n", "-2:n", "n:2", "2*n:2", "2:n<3",
    "--n=n", "+n=n", "n=+1", "n+-1=n", "n--1=n", "n+=n", "n-=n", "n*2=n", "n*n=n", "2*2=4", "2**n=n", "2*=n", "*n=n",
    "2n=n", "2*-n=n", "2*(n)=n", "(n)=n", "(1)=1", "n=(n)", "n=n)", "(n=n", "()", "!()", "(n=n))", "((n=n)", "!", "!!",
    "!n", "n!=n", "n=!n", "n=n&", "&n=n", "n=n|", "|n=n", "n=n&&n=n", "n=n||n=n", "n=n&|n=n", "n=n n=n", "n=n,n=n",
    "#=n", "#n=n", "##1=n", "#(1=n", "#1)=n", "#()=n", "#2=n", "#10=n", "#01=n", "#1*0=n", "#1*2=n", "2*#1*0=n",
    "#1+0*1=n", "#[1]=n", "[0<2]", "[0]", "[]", "[0<1", "0<1]", "[0<1<1]", "[0=1=1]", "[0==1]", "[00=0]", "[10=1]",
    "[0+=1]", "[+0=1]", "[0-1=1]", "[0*=1]", "[*0=1]", "[0*+1=1]", "[0=-]", "[()=0]", "[(0=0)]", "[(0]=0)", "[n=0]",
    "[#0=0]", "[0<1]]", "[[0<1]]", "[!0=1]", "[0=1&0=1]", "[0|1=1]", "[0:1]", "([0<1)]",
    "A", "E", "AX", "AXA", "AX X", "A n=n", "An n=n", "A1 n=n", "AA n=n", "Ax n=n", "AW n=n", "aX n=n", "EI n=n", "AX,n=n",
    "AXY n=n", "AX:n=n", "XA n=n", "Ai i", "Ai [i=0]", "Ai #i=1", "AX X=X", "AX 2*X=1", "Ai i*2=1", "Ai 2i=1", "Ai l=1",
    "i=i", "[X=0]", "#X=1", "i=0&Ai i=0", "Ai i=0&i=0", "Ai i=0|i=0", "(Ai i=0)&i=0", "AX n=n&[X=0]", "Ai j=0",
    "AX[Y=0]", "AX#Y=0", "AXAY(n=n)&[X=Y]", "AX(AY[X=Y]&[Y=0])", "Ei(Ej i=j)|i=1", "2:i", "Ai 2:j", "!Ai n=n|2:i", "2*i=n",
    "AiAjAkAiAj n=n", "EXEYEZEiEj i=j", "Ai i=0&Ai i=0&Ai i=0&Ai i=0&Ai i=0", "[X<AX X]", "n=Ai i", "(Ai)i=i", "Ai(i)=i",
    "n=n.", "n=n;", "~n=n", "n=n?", "\"n=n\"", "n=N", "n=x", "n=I", "N=n", "n={n}", "n/n=1", "n%2=0", "n^n=n",
  };

  private ReadTest() {}

  public static void main(String[] args) {
    for (String row : SENTENCES) {
      accept(row.charAt(0) - '0', row.substring(2));
    }
    for (String text : NO_SENTENCES) {
      refuse(text);
    }
    blanksMeanNothing();
    everyDeepeningSignCounts();
    whatDoesNotDeepen();
    fullTexts();
    refusalLeavesAllAsItWas();
    readEmptiesTheText();
    Check.end();
  }

  private static void accept(int quantifiers, String text) {
    HeadCount x = Check.withText(text);
    Check.due("read of " + text, quantifiers, x::read);
    Check.due("length after " + text, 0, x::length);
  }

  private static void refuse(String text) {
    HeadCount x = Check.withText(text);
    Check.due("read of " + text, REFUSED, x::read);
    Check.due("length after " + text, text.length(), x::length);
    Check.due("fails after " + text, "throws.IllegalStateException", x::fails);
  }

  private static void blanksMeanNothing() {
    for (String row : SENTENCES) {
      String bare = row.substring(2).replace(" ", "");
      accept(row.charAt(0) - '0', bare);
      accept(row.charAt(0) - '0', "  " + String.join(" ", bare.split("")) + "  ");
    }
    for (String text : NO_SENTENCES) {
      refuse(text.replace(" ", ""));
      refuse(" " + String.join("  ", text.split("")) + " ");
    }
  }

  /** Each sign that takes what it begins deeper, 11 others around it and then 12. */
  private static void everyDeepeningSignCounts() {
    String[] deeper = {"!n=n", "(n=n)", "AX n=n", "Ei n=n", "#1=n", "n=#0", "2:#1", "[-1=0]", "[0=-1]", "[(0)=0]", "[0<0*(0)]"};
    for (String text : deeper) {
      int quantifiers = text.startsWith("A") || text.startsWith("E") ? 1 : 0;
      accept(quantifiers, "!".repeat(11) + text);
      refuse("!".repeat(12) + text);
      accept(quantifiers, "(".repeat(11) + text + ")".repeat(11));
      refuse("(".repeat(12) + text + ")".repeat(12));
      accept(4, "!".repeat(6) + "AXEYAiEj" + "!".repeat(quantifiers == 0 ? 1 : 2) + (quantifiers == 0 ? text : "n=n"));
      refuse("!".repeat(8) + "AXEYAiEj" + (quantifiers == 0 ? text : "!n=n"));
    }
    accept(0, "[" + "-".repeat(12) + "1=0]");
    refuse("[" + "-".repeat(13) + "1=0]");
    accept(0, "[" + "(".repeat(12) + "1" + ")".repeat(12) + "=0]");
    refuse("[0=" + "(".repeat(13) + "1" + ")".repeat(13) + "]");
    accept(0, "#" + "-(".repeat(5) + "-1" + ")".repeat(5) + "=n");
    refuse("#" + "-(".repeat(6) + "1" + ")".repeat(6) + "=n");
    accept(4, "EXEYEZEi" + "(".repeat(8) + "n=n" + ")".repeat(8));
    refuse("EXEYEZEi" + "(".repeat(9) + "n=n" + ")".repeat(9));
    refuse("n=n|" + "!".repeat(13) + "n=n");
    refuse("!".repeat(120));
    refuse("(".repeat(120));
    refuse("#" + "(".repeat(119));
    refuse("[" + "-".repeat(119));
  }

  private static void whatDoesNotDeepen() {
    accept(0, "!".repeat(12) + "-n=-n-n");
    accept(0, "!".repeat(12) + "[0<1+0*1]");
    accept(0, "!".repeat(12) + "2:-n");
    accept(0, "!".repeat(12) + "n=n&" + "!".repeat(12) + "n=n|" + "!".repeat(12) + "n=n");
    accept(0, "(".repeat(12) + "n=n" + ")".repeat(12) + "|" + "(".repeat(12) + "n=n" + ")".repeat(12));
    accept(0, "#(1)+#(1)+#(1)+#(1)+#(1)+#(1)+#(1)+#(1)+#(1)+#(1)+#(1)+#(1)+#(1)=n");
    accept(0, "[-1+-1+-1+-1+-1+-1+-1+-1+-1+-1+-1+-1+-1+-1*-1*-1*-1*-1=0]");
  }

  private static void fullTexts() {
    accept(0, "n=n" + "-n".repeat(58) + " ");
    accept(0, "n=n" + "|n=n".repeat(29) + " ");
    accept(0, "n=n" + "&n=n".repeat(29) + " ");
    accept(0, "[1=1" + "+1".repeat(57) + "] ");
    accept(0, "[1=1" + "*1".repeat(57) + " ]");
    accept(0, "#1=#1" + "-#1".repeat(38) + " ");
    accept(0, "999*n=999" + "+999*n".repeat(18));
    accept(0, "n=n|n=n&(".repeat(11) + "n=n" + ")".repeat(11));
    accept(0, " ".repeat(117) + "n=n");
    refuse(" ".repeat(120));
    refuse("n".repeat(120));
    refuse("1".repeat(120));
    refuse("n=n" + "-n".repeat(58) + "-");
    refuse("n=n" + "|n=n".repeat(29) + "|");
  }

  private static void refusalLeavesAllAsItWas() {
    HeadCount x = Check.withSentence("EX #X=2");
    Check.due("ways before", 6, () -> x.ways(4));
    String[] wrong = {"Ai", " (i=", "i|", "#1=2"};
    int length = 0;
    for (String more : wrong) {
      Check.put(x, more);
      length += more.length();
      Check.due("read of half a sentence", REFUSED, x::read);
      Check.due("read of it again", REFUSED, x::read);
      Check.due("length of it", length, x::length);
      Check.due("ways as before", 6, () -> x.ways(4));
      Check.due("ways as before, not asked yet", 3, () -> x.ways(3));
      Check.due("fails as before", 0, x::fails);
    }
    Check.put(x, ")");
    Check.due("read when whole", 1, x::read);
    Check.due("ways when whole", 17, () -> x.ways(4));
    Check.due("length when whole", 0, x::length);
  }

  private static void readEmptiesTheText() {
    HeadCount x = Check.withText("n<1");
    Check.due("first read", 0, x::read);
    Check.due("length after first read", 0, x::length);
    Check.due("second read, of nothing", REFUSED, x::read);
    Check.due("sentence stays", 1, x::fails);
    for (int round = 0; round < 40; round++) {
      int bound = round % 6;
      Check.put(x, "AX#X<" + bound);
      Check.due("read in round " + round, 1, x::read);
      Check.due("fails in round " + round, bound == 5 ? -1 : bound, x::fails);
    }
  }
}
