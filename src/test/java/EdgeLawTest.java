/** The edges of terms 3 and of promises 26 to 34, each sentence of the document by itself. */
public final class EdgeLawTest {
  private static final String[] NAMES = {"price", "share", "wage", "run", "fine", "votes", "choice", "squat"};
  private static final int[] USUAL = {20, 50, 2, 5, 1, 0, 4, 1};
  private static final String LEAST = "8192*8192*32";
  private static final Due due = new Due("EdgeLawTest");
  private static final Twins twins = new Twins(due, Colony::busy);

  public static void main(String[] args) {
    feed();
    law();
    twelveLaws();
    longTexts();
    tooEarly();
    cannotStand();
    numbers();
    openOnes();
    clauses();
    theLeast();
    blanksAndWords();
    fault();
    wraps();
    byNothing();
    facts();
    truth();
    year();
    limits();
    withoutALaw();
    vote();
    close();
    votesTold();
    assent();
    readHere();
    undone();
    undoneBelowNothing();
    lastOfAKind();
    means();
    why();
    due.end();
  }

  /** So many PEOPLE in WEEK 35, each with a TOWN ACRE; no LOTS. */
  private static SettlerColony voters(int many) {
    SettlerColony x = Colony.settled(many, 0, 0);
    for (int p = 0; p < many; p++) x.ask(p);
    x.draw(0);
    return x;
  }

  private static String times(int many, String text) {
    return text.repeat(many);
  }

  private static void text(String text, int answer, int place) {
    SettlerColony x = new SettlerColony();
    due.is("law \"" + text + "\"", Colony.law(x, text), answer);
    due.is("FAULT of \"" + text + "\"", x.fault(), place);
    due.is("LAWS behind \"" + text + "\"", x.count(7), answer < 0 ? 0 : 1);
    due.is("the TAPE behind \"" + text + "\"", x.count(13), 0);
  }

  // ---- promises 26 to 28 ----

  private static SettlerColony fullTape() {
    SettlerColony x = Colony.busy();
    for (int k = 1; k < 15; k++) x.feed(0x20202020, 0x20202020, 0x20202020, 0x20202020, 0x20202020);
    return x;
  }

  private static void feed() {
    due.says(26, "Twenty bytes come on the TAPE, of each number the highest first: how many there are; NONE, doing nothing, if there"
        + " would be more than 300.");
    SettlerColony x = new SettlerColony();
    for (int k = 1; k <= 15; k++) due.is("feed " + k, x.feed(0x20202020, 0x20202020, 0x20202020, 0x20202020, 0x20202020), 20 * k);
    due.is("a 16th", x.feed(0, 0, 0, 0, 0), -1);
    due.is("300 bytes", x.count(13), 300);
    due.is("none of them is altered", x.law(300), 0);
    due.is("it begins anew", x.feed(-1, -1, -1, -1, -1), 20);
    due.is("bytes of 255", x.law(20), -9);
    new Twins(due, EdgeLawTest::fullTape).refused("a 16th", -1, y -> y.feed(0, 0, 0, 0, 0));
    int[] numbers = {Integer.MIN_VALUE, Integer.MAX_VALUE, -1, 1, 0};
    for (int place = 0; place < 20; place++) {
      SettlerColony y = new SettlerColony();
      int[] five = {0x20202020, 0x20202020, 0x20202020, 0x20202020, 0x20202020};
      five[place / 4] += 1 << 24 - place % 4 * 8;
      y.feed(five[0], five[1], five[2], five[3], five[4]);
      due.is("a byte that can't stand", y.law(20), -9);
      due.is("its place", y.fault(), place);
    }
    for (int number : numbers) {
      SettlerColony y = new SettlerColony();
      due.is("any number", y.feed(number, number, number, number, number), 20);
      due.is("no blank", y.law(1), -9);
    }
  }

  private static void law() {
    due.says(27, "The first n bytes of the TAPE (empty then) are a LAW, PROPOSED: its number, or its FAULT less 10");
    SettlerColony x = new SettlerColony();
    due.is("no byte of none", x.law(0), 0);
    due.is("PROPOSED", x.force(0), 0);
    Colony.feed(x, "wage=1;?????????????");
    due.is("the first seven of 20", x.law(7), 1);
    due.is("the TAPE", x.count(13), 0);
    Colony.feed(x, "wage=1;             ");
    due.is("all 20", x.law(20), 2);
    Colony.feed(x, "wage=1;");
    due.is("none of 20", x.law(0), 3);
    due.is("the TAPE", x.count(13), 0);
    Colony.feed(x, "wage=1;");
    due.is("six of 20: a FAULT", x.law(6), -9);
    due.is("the TAPE", x.count(13), 0);
    due.says(27, "IllegalArgumentException: n is not 0 to the TAPE's bytes.");
    for (int n : new int[] {-1, 1, 300, Integer.MIN_VALUE, Integer.MAX_VALUE}) due.argument("n " + n + " of 0", () -> x.law(n));
    for (int n : new int[] {-1, 21, 300, Integer.MIN_VALUE, Integer.MAX_VALUE}) twins.argument("n " + n + " of 20", y -> y.law(n));
    Twins full = new Twins(due, EdgeLawTest::fullTape);
    for (int n : new int[] {-1, 301, Integer.MAX_VALUE}) full.argument("n " + n + " of 300", y -> y.law(n));
  }

  private static void twelveLaws() {
    due.term(3, "LAWS, numbered from 0 on, 12 at most, are texts of up to 300 bytes");
    SettlerColony x = new SettlerColony();
    for (int law = 0; law < 12; law++) due.is("LAW", Colony.law(x, "wage=" + law + ";"), law);
    due.says(27, "-1: there are 12.");
    due.is("a 13th", Colony.law(x, "wage=13;"), -1);
    due.is("the TAPE is empty then", x.count(13), 0);
    due.is("a 13th of no bytes", x.law(0), -1);
    due.is("LAWS", x.count(7), 12);
    due.is("no FAULT", x.fault(), -1);
    due.argument("a byte of none", () -> x.law(1));
    due.argument("less than none", () -> x.law(-1));
    for (int law = 0; law < 12; law++) due.is("PROPOSED", x.force(law), 0);
    due.says(29, "IndexOutOfBoundsException: no such LAW (so below), PERSON.");
    for (int law : new int[] {-1, 12, Integer.MIN_VALUE, Integer.MAX_VALUE}) {
      due.index("force of " + law, () -> x.force(law));
      due.index("close of " + law, () -> x.close(law));
      due.index("assent of " + law, () -> x.assent(law, true));
      due.index("vote on " + law, () -> x.vote(law, 0, true));
    }
    SettlerColony y = Colony.busy();
    for (int law : new int[] {-1, 1, 11}) {
      twins.index("force of " + law, z -> z.force(law));
      twins.index("close of " + law, z -> z.close(law));
      twins.index("assent of " + law, z -> z.assent(law, false));
      twins.index("vote on " + law, z -> z.vote(law, 0, true));
    }
    for (int p : new int[] {-1, 6, 100, Integer.MIN_VALUE, Integer.MAX_VALUE}) {
      twins.index("vote of " + p, z -> z.vote(0, p, true));
      due.index("vote of " + p + " on no LAW", () -> y.vote(1, p, true));
    }
  }

  private static void longTexts() {
    due.term(3, "are texts of up to 300 bytes");
    text(times(300, " "), 0, -1);
    text(times(293, " ") + "wage=1;", 0, -1);
    text(times(294, " ") + "wage=1", -9, 300);
    text(times(299, " ") + ";", -9, 299);
    text("wage=" + times(294, "0") + ";", 0, -1);
    text("wage=" + times(290, "0") + "9999;", 0, -1);
    text("wage=" + times(289, "0") + "10000;", -8, 5);
    text("wage=" + times(295, "9"), -8, 5);
    text("wage=1" + times(147, "+1"), -9, 300);
    text(times(300, "a"), -9, 0);
    text(times(300, "("), -9, 0);
    text("run=" + times(296, "("), -7, 12);
    text("run=if(" + times(97, "not"), -9, 7);
    text("run=if(" + times(73, "not "), -7, 35);
    SettlerColony x = voters(1);
    Colony.enact(x, "run=1" + times(147, "+1") + ";");
    due.is("148 ones in 300 bytes", x.means(3, -1), 148);
    Colony.enact(x, "run=" + times(8, "(") + "1" + times(137, "*1") + times(8, ")") + ";");
    due.is("eight brackets and 138 ones", x.means(3, -1), 1);
    Colony.enact(x, "run=" + times(8, "least(9,") + "7" + times(8, ")") + times(42, "*week") + ";");
    due.is("7 times 35, 42 times, in 32 bits", x.means(3, -1), Math.max(0, Math.min(1000, power(7, 35, 42))));
  }

  private static int power(int first, int factor, int many) {
    int value = first;
    for (int k = 0; k < many; k++) value *= factor;
    return value;
  }

  // ---- FAULTS ----

  private static void tooEarly() {
    due.term(3, "1 what can't stand there (at the length, if the text ends too early)");
    String whole = "run=if(not[1<2 or 3=4]and 5>6,least(7,week)*(8-9),most(year,3));undo fall;";
    text(whole, 0, -1);
    for (int n = 1; n < whole.length(); n++) {
      String part = whole.substring(0, n);
      if (part.endsWith(";")) text(part, 0, -1);
      else if (!endsInAPartOfAWord(part)) text(part, -9, n);
    }
    text("run", -9, 3);
    text("run   ", -9, 6);
    text("run=1   ", -9, 8);
    text("undo", -9, 4);
    text("undo fall", -9, 9);
    text("run=1;undo stand  ", -9, 18);
    text("run=if(not", -9, 10);
    text("run=if([", -9, 8);
    text("run=if(1<2 and", -9, 14);
    text("run=if(1<2 or", -9, 13);
    text("run=least", -9, 9);
    text("run=least(1,2", -9, 13);
  }

  /** Whether the last word of a text is none of the language, so that it is the FAULT itself. */
  private static boolean endsInAPartOfAWord(String text) {
    int from = text.length();
    while (from > 0 && text.charAt(from - 1) >= 'a' && text.charAt(from - 1) <= 'z') from--;
    String word = text.substring(from);
    String words = " run if not or and least week most year undo fall ";
    return !word.isEmpty() && !words.contains(" " + word + " ");
  }

  private static void cannotStand() {
    due.term(3, "FAULTS, the first from the left, at its first byte: 1 what can't stand there");
    String[] texts = {"ru", "runs=1;", "run=weeks;", "run=1 two;", "undo falls;", "undo standing;", "run=leasts(1,2);", "run=iff(1<2,3,4);"};
    int[] places = {0, 0, 4, 6, 5, 5, 4, 4};
    for (int k = 0; k < texts.length; k++) text(texts[k], -9, places[k]);
    String[] units = {"+1", "-1", "*2", ")", ",", ";", "[1]", "not 1", "<2", "=2", "run", "undo", "and 1", "fall", "]", "&"};
    for (String unit : units) text("run=" + unit, -9, 4);
    String[] behind = {"1", "week", "(1)", ")", ",", "<2", "=2", "[", "]", "and 1=1", "or 1=1", "not 1=1", "run=2;", "!", "\t", "\n", "\0"};
    for (String more : behind) text("run=1 " + more, -9, 6);
    for (int sign = 0; sign < 256; sign++) {
      char c = (char) sign;
      boolean may = c == ' ';
      text(c + ";", -9, may ? 1 : 0);
      boolean goesOn = c == ' ' || c == ';' || c >= '0' && c <= '9' || "+-*/%".indexOf(c) >= 0;
      SettlerColony x = new SettlerColony();
      Colony.law(x, "run=1" + c + "~");
      int place = goesOn ? 6 : 5;
      due.is("byte " + sign + " behind a number", x.fault(), place);
    }
    text("run=1;wage", -9, 10);
    text("run=1;week=2;", -9, 6);
    text("run=if(1<2,3);", -9, 12);
    text("run=if(1,2,3);", -9, 8);
    text("run=if(1<2<3,4,5);", -9, 10);
    text("run=if((1<2),3,4);", -9, 9);
    text("run=if([1]<2,3,4);", -9, 9);
    text("run=if 1<2,3,4;", -9, 7);
    text("run=least[1,2];", -9, 9);
    text("run=least(1,2,3);", -9, 13);
    text("run=most(1);", -9, 10);
    text("run==1;", -9, 4);
    text("run=1;;", -9, 6);
    text(";", -9, 0);
    text("=1;", -9, 0);
    text("1=1;", -9, 0);
    text("undo;", -9, 4);
    text("undo=fall;", -9, 4);
    text("stand;", -9, 0);
    text("undo fall stand;", -9, 10);
  }

  private static void numbers() {
    due.term(3, "N: digits, as many as stand there, 0 to 9,999.");
    text("run=0;", 0, -1);
    text("run=9999;", 0, -1);
    text("run=00009999;", 0, -1);
    due.term(3, "2 an N above 9,999");
    text("run=10000;", -8, 4);
    text("run=  10000;", -8, 6);
    text("run=00010000;", -8, 4);
    text("run=2147483647;", -8, 4);
    text("run=2147483648;", -8, 4);
    text("run=4294967296;", -8, 4);
    text("run=4294967297;", -8, 4);
    text("run=18446744073709551617;", -8, 4);
    text("run=1+10000", -8, 6);
    text("run=if(10000<1,2,3);", -8, 7);
    text("run=if(1<10000,2,3);", -8, 9);
    text("run=10000week;", -8, 4);
    text("run=1week;", -9, 5);
    text("run=week1;", -9, 8);
    text("run=9999 9;", -9, 9);
  }

  private static void openOnes() {
    due.term(3, "a 9th of ( [ and not that is open at one time (a not till its B ends)");
    text("run=((((((((1))))))));", 0, -1);
    text("run=(((((((((1)))))))));", -7, 12);
    text("run=((((((((1))))))))*((((((((1))))))));", 0, -1);
    text("run=((((((((1)+(1)))))))));", -9, 25);
    text("run=((((((((1)+(1))))))));", 0, -1);
    text("run=((((((((1)+((1)))))))));", -7, 16);
    text("run=least(least(least(least(least(least(least(least(1,2),3),4),5),6),7),8),9);", 0, -1);
    text("run=least(least(least(least(least(least(least(least(least(1,2),3),4),5),6),7),8),9),9);", -7, 57);
    text("run=most(1,(((((((2))))))));", 0, -1);
    text("run=most(1,((((((((2)))))))));", -7, 18);
    text("run=most(((((((1))))))),((((((2)))))));", -9, 22);
    text("run=most(((((((1)))))),((((((2)))))));", 0, -1);
    text("run=if(1=1,(((((((1))))))),(((((((2))))))));", 0, -1);
    text("run=if(1=1,((((((((1)))))))),2);", -7, 18);
    text("run=if(1=1,1,((((((((2)))))))));", -7, 20);
    text("run=if([[[[[[[1=1]]]]]]],1,2);", 0, -1);
    text("run=if([[[[[[[[1=1]]]]]]]],1,2);", -7, 14);
    text("run=if([1=1]and[1=1]or[[[[[[[1=1]]]]]]],1,2);", 0, -1);
    text("run=if([1=1]and[1=1]or[[[[[[[[1=1]]]]]]]],1,2);", -7, 29);
    text("run=if([[[[[[(1)=(1)]]]]]],1,2);", 0, -1);
    text("run=if([[[[[[[(1)=1]]]]]]],1,2);", -7, 14);
    text("run=if([[[[[[[1=(1)]]]]]]],1,2);", -7, 16);
    text("run=if(" + times(7, "not ") + "1=1,1,2);", 0, -1);
    text("run=if(" + times(8, "not ") + "1=1,1,2);", -7, 35);
    text("run=if(" + times(7, "not ") + "1=1 and " + times(7, "not ") + "1=1,1,2);", 0, -1);
    text("run=if(" + times(7, "not ") + "(1)=1,1,2);", -7, 35);
    text("run=if(" + times(7, "not ") + "1=(1),1,2);", -7, 37);
    text("run=if(" + times(7, "not ") + "1=1 or (1)=1,(1),(2));", 0, -1);
    text("run=if(" + times(6, "not ") + "[1=1 and not 1=1],1,2);", -7, 40);
    text("run=if(" + times(5, "not ") + "[1=1 and not 1=1],1,2);", 0, -1);
    text("run=if(" + times(6, "not ") + "[1=1]and not 1=1,1,2);", 0, -1);
    text("run=if([not[not[not[not 1=1]]]],1,2);", -7, 20);
    text("run=if([not[not[not[1=1]]]],1,2);", 0, -1);
  }

  private static void clauses() {
    due.term(3, "At most 10 CLAUSES");
    String ten = times(10, "run=1;");
    text(ten, 0, -1);
    text(ten + "   ", 0, -1);
    text(times(9, "run=1;") + "undo fall;", 0, -1);
    text(times(10, "undo fall;"), 0, -1);
    due.term(3, "3 an 11th CLAUSE");
    text(ten + "run=1;", -7, 60);
    text(ten + "  run=1;", -7, 62);
    text(ten + "undo fall;", -7, 60);
    text(ten + "run", -7, 60);
    text(ten + "run=10000", -7, 60);
    text(times(10, "undo fall;") + "undo", -7, 100);
  }

  private static void theLeast() {
    due.term(3, "of one the least.");
    String ten = times(10, "run=1;");
    text(ten + ";", -9, 60);
    text(ten + "runs=1;", -9, 60);
    text(ten + "10000", -9, 60);
    text(ten + "(", -9, 60);
    text(ten + "not", -9, 60);
    text("run=1 10000;", -9, 6);
    text("10000=1;", -9, 0);
    text("run 10000;", -9, 4);
    text("run=((((((((1(", -9, 13);
    text("run=((((((((1 not", -9, 14);
    text("run=((((((((not", -9, 12);
    text("run=((((((((1[", -9, 13);
    text("run=((((((((least", -9, 17);
    text("run=((((((((least[", -9, 17);
    text("run=((((((((if not", -9, 15);
    text("run=((((((((10000", -8, 12);
    text("run=if(" + times(7, "not ") + "1 not", -9, 37);
    text("run=if(" + times(7, "not ") + "1=[", -9, 37);
  }

  private static void blanksAndWords() {
    due.term(3, "WORDS: small letters, as many as stand there; blanks (32) may stand ahead of all these, and at the end.");
    text("  run  =  if  (  not  [  1  <  2  ]  ,  3  ,  4  )  ;  undo  fall  ;  ", 0, -1);
    text("run=if(not[1<2],3,4);undo fall;", 0, -1);
    text("run=if(not 1<2and 3<4or 5<6,3,4);", 0, -1);
    text("run=if(not1<2,3,4);", 0, -1);
    text("run=least (1,2);", 0, -1);
    text("run=if (1<2,3,4);", 0, -1);
    text("r un=1;", -9, 0);
    text("runz=1;", -9, 0);
    text("runa=1;", -9, 0);
    text("run{=1;", -9, 3);
    text("run`=1;", -9, 3);
    text("run=1:", -9, 5);
    text("run=9/9;", 0, -1);
    text("run=weekz;", -9, 4);
    text("run=if(1<2 andnot 3<4,5,6);", -9, 11);
    text("run=if(notnot 1<2,5,6);", -9, 7);
    text("undofall;", -9, 0);
    text("run=1 0;", -9, 6);
    text("run=we ek;", -9, 4);
    text("RUN=1;", -9, 0);
    text("Run=1;", -9, 0);
    text("run=1;\t", -9, 6);
    text("run=1;\n", -9, 6);
    text("run=1;\u00a0", -9, 6);
  }

  private static void fault() {
    due.says(28, "The place of the FAULT of the latest law(); NONE without.");
    SettlerColony x = new SettlerColony();
    due.is("no law() yet", x.fault(), -1);
    Colony.law(x, "run=;");
    due.is("a FAULT", x.fault(), 4);
    due.argument("n", () -> x.law(1));
    due.is("told again", x.fault(), 4);
    Colony.law(x, "run=1");
    due.is("the latest", x.fault(), 5);
    Colony.law(x, "run=1;");
    due.is("without", x.fault(), -1);
    Colony.law(x, ";");
    due.is("place 0", x.fault(), 0);
    x.law(0);
    due.is("without", x.fault(), -1);
  }

  // ---- VALUES and MEANINGS ----

  private static void value(String e, int want) {
    SettlerColony x = voters(2);
    Colony.enact(x, "run=" + e + ";");
    due.is("run=" + e, x.means(3, -1), want);
  }

  /** Whether a C holds. */
  private static void holds(String c) {
    value("if(" + c + ",7,6)", 7);
  }

  private static void wraps() {
    due.term(3, "VALUES are whole numbers of 32 bits that wrap");
    holds(LEAST + "<0");
    holds(LEAST + "-1>0");
    holds(LEAST + "-1=8192*8192*31+(8192*8192-1)");
    holds(LEAST + "-1+1=" + LEAST);
    holds("0-" + LEAST + "=" + LEAST);
    holds(LEAST + "*(0-1)=" + LEAST);
    holds(LEAST + "/(0-1)=" + LEAST);
    holds(LEAST + "%(0-1)=0");
    holds(LEAST + "*2=0");
    holds("8192*8192*64=0");
    holds("8192*8192*63<0");
    holds("9999*9999*43=417*9999+3164");
    holds("most(" + LEAST + "," + LEAST + "-1)>0");
    holds("least(" + LEAST + "," + LEAST + "-1)<0");
    holds("not 0<" + LEAST);
    value(LEAST, 0);
    value(LEAST + "-1", 1000);
    value(LEAST + "/(0-1)", 0);
    value("0-" + LEAST, 0);
    value(LEAST + "*2+3", 3);
  }

  private static void byNothing() {
    due.term(3, "/ and % cut as in whole numbers, by 0 both are 0.");
    String[] zero = {"7/0", "7%0", "0/0", "0%0", "(0-7)/0", "(0-7)%0", LEAST + "/0", LEAST + "%0", "7/(3-3)", "7%(3-3)", "0/7", "0%7",
        "6/7", "(0-6)/7", "6/(0-7)", "7%7", "7%(0-7)", "7/0*9", "9*7%0", "5/0/0", "5%0%0"};
    for (String e : zero) holds(e + "=0");
    holds("7/2=3");
    holds("(0-7)/2=0-3");
    holds("7/(0-2)=0-3");
    holds("(0-7)/(0-2)=3");
    holds("7%2=1");
    holds("(0-7)%2=0-1");
    holds("7%(0-2)=1");
    holds("(0-7)%(0-2)=0-1");
    holds("7/0+1=1");
    holds("if(7/0=0,1,2)=1");
  }

  private static void facts() {
    due.term(3, "sold: FARMS now; people: those HERE; soil: of the SECTION that is asked for (0 without).");
    SettlerColony x = Colony.settled(6, 29, 8);
    x.ask(5);
    x.draw(0);
    int law = Colony.law(x, "run=sold;wage=people;fine=soil;");
    x.vote(law, 5, true);
    x.close(law);
    due.is("no FARM", x.means(3, -1), 0);
    x.run(1, 3);
    x.squat(2, 4);
    due.is("PASTURES are no FARMS", x.means(3, -1), 0);
    x.buy(0, 0);
    due.is("COUNTRY", x.means(3, -1), 1);
    x.choose(0, 1);
    due.is("ORDER", x.means(3, -1), 2);
    due.is("six are HERE", x.means(2, -1), 6);
    x.people(3, 0, 60);
    due.is("who is at HOME is not", x.means(2, -1), 6);
    x.order(6);
    x.ship(1, 0, 0, 0);
    due.is("who is at SEA is not", x.means(2, -1), 6);
    x.week(35);
    due.is("two landed", x.means(2, -1), 8);
    due.is("soil without", x.means(4, -1), 0);
    due.is("soil of 95", x.means(4, 95), 5);
    x.land(94, 9, false);
    x.land(95, 0, false);
    due.is("soil of 94", x.means(4, 94), 9);
    due.is("soil of 95", x.means(4, 95), 0);
    due.is("sold for a SECTION", x.means(3, 95), x.means(3, -1));
    SettlerColony y = Colony.settled(2, 29, 8);
    y.buy(0, 0);
    Colony.enact(y, "squat=soil;wage=soil;run=soil;share=soil*20;");
    due.is("squat of a SECTION", y.means(7, 1), 5);
    due.is("squat is without: 0", y.squat(0, 1), -3);
    due.is("run is without: 0", y.run(0, 1), 0);
    y.week(2);
    due.is("wage is without: 0", y.person(0, 1) + y.person(1, 1), 9 + 29);
    due.is("HIRED", y.person(1, 3), 0);
  }

  private static void truth() {
    due.term(3, "C: A { \"or\" A }. A: B { \"and\" B }. B: \"not\" B, \"[\" C \"]\", or E R E; R: <, > or =.");
    String[] sides = {"0=1", "1=1"};
    for (int a = 0; a < 2; a++) {
      truth("not " + sides[a], a == 0);
      truth("not not " + sides[a], a == 1);
      truth("not[" + sides[a] + "]", a == 0);
      for (int b = 0; b < 2; b++) {
        truth(sides[a] + " and " + sides[b], a + b == 2);
        truth(sides[a] + " or " + sides[b], a + b > 0);
        truth("not " + sides[a] + " and " + sides[b], a == 0 && b == 1);
        truth("not " + sides[a] + " or " + sides[b], a == 0 || b == 1);
        for (int c = 0; c < 2; c++) {
          truth(sides[a] + " or " + sides[b] + " and " + sides[c], a + b * c > 0);
          truth(sides[a] + " and " + sides[b] + " or " + sides[c], a * b + c > 0);
          truth("[" + sides[a] + " or " + sides[b] + "]and " + sides[c], (a + b) * c > 0);
          truth("not[" + sides[a] + " or " + sides[b] + "]or " + sides[c], a + b == 0 || c == 1);
        }
      }
    }
    int[] values = {-1, 0, 1};
    for (int a : values) {
      for (int b : values) {
        String left = "(" + (a + 1) + "-1)";
        String right = "(" + (b + 1) + "-1)";
        truth(left + "<" + right, a < b);
        truth(left + ">" + right, a > b);
        truth(left + "=" + right, a == b);
      }
    }
    value("least(3,3)+most(4,4)", 7);
    value("most(least(1,2),least(4,3))", 3);
    value("if(1=1,if(1=2,3,4),5)", 4);
    value("if(1=1,2,3)*if(1=2,5,7)", 14);
  }

  private static void truth(String c, boolean want) {
    value("if(" + c + ",7,6)", want ? 7 : 6);
  }

  private static void year() {
    due.term(1, "A YEAR has 52 WEEKS: YEAR is WEEK by 52, cut.");
    SettlerColony x = voters(1);
    Colony.enact(x, "run=year;wage=week;");
    int[] weeks = {51, 52, 53, 103, 104, 155, 156, 259, 260, 311, 312, 999, 1000};
    int[] years = {0, 1, 1, 1, 2, 2, 3, 4, 5, 5, 6, 19, 19};
    for (int k = 0; k < weeks.length; k++) {
      while (x.count(0) < weeks[k]) x.week(Math.min(104, weeks[k] - x.count(0)));
      due.is("YEAR of WEEK " + weeks[k], x.means(3, -1), years[k]);
      due.is("WEEK " + weeks[k], x.means(2, -1), weeks[k]);
    }
  }

  private static void limit(int name, String e, int want) {
    SettlerColony x = voters(1);
    Colony.enact(x, NAMES[name] + "=" + e + ";");
    due.is(NAMES[name] + "=" + e, x.means(name, -1), want);
    due.is(NAMES[name] + "=" + e + " for a SECTION", x.means(name, 95), want);
    due.is("why " + NAMES[name], x.why(name), 0);
  }

  private static void limits() {
    due.term(3, "of price 1 to 1,000 (less is 1, more 1,000), of share 0 to 100, of all others 0 to 1,000 likewise");
    for (int name = 0; name < 8; name++) {
      int least = name == 0 ? 1 : 0;
      int most = name == 1 ? 100 : 1000;
      limit(name, "0", least);
      limit(name, "1", 1);
      limit(name, "2", 2);
      limit(name, "0-1", least);
      limit(name, LEAST, least);
      limit(name, "99", 99);
      limit(name, "100", 100);
      limit(name, "101", Math.min(101, most));
      limit(name, "999", Math.min(999, most));
      limit(name, "1000", most);
      limit(name, "1001", most);
      limit(name, "9999", most);
      limit(name, LEAST + "-1", most);
    }
  }

  private static void withoutALaw() {
    due.term(3, "without a LAW: price 20, share 50, wage 2, run 5, fine 1, votes 0, choice 4, squat 1.");
    SettlerColony x = voters(1);
    for (int name = 0; name < 8; name++) {
      due.is("at first " + NAMES[name], new SettlerColony().means(name, -1), USUAL[name]);
      Colony.law(x, NAMES[name] + "=77;");
      due.is("PROPOSED is not in force: " + NAMES[name], x.means(name, -1), USUAL[name]);
      x.close(name);
      due.is("FAILED is not in force: " + NAMES[name], x.means(name, -1), USUAL[name]);
      due.is("why " + NAMES[name], x.why(name), -1);
    }
    Colony.enact(x, "undo fall;");
    for (int name = 0; name < 8; name++) due.is("a LAW that doesn't tell it: " + NAMES[name], x.means(name, -1), USUAL[name]);
  }

  // ---- votes ----

  private static SettlerColony council() {
    SettlerColony x = Colony.busy();
    x.law(0);
    x.law(0);
    x.close(1);
    x.vote(0, 0, true);
    return x;
  }

  private static void vote() {
    due.says(29, "how many said so; or, the first of these: -1 the LAW is not PROPOSED; -2 the PERSON may not; -3 has voted on it.");
    Twins council = new Twins(due, EdgeLawTest::council);
    council.refused("on a closed one, who may", -1, x -> x.vote(1, 0, true));
    council.refused("on a closed one, who may not", -1, x -> x.vote(1, 5, true));
    council.refused("at HOME", -2, x -> x.vote(0, 5, true));
    council.refused("with a RUN", -2, x -> x.vote(0, 1, true));
    council.refused("with a SQUAT", -2, x -> x.vote(0, 2, false));
    council.refused("who asks for an ACRE", -2, x -> x.vote(0, 3, true));
    council.refused("again", -3, x -> x.vote(0, 0, true));
    council.refused("again, otherwise", -3, x -> x.vote(0, 0, false));
    SettlerColony x = council();
    due.is("on another LAW", x.vote(2, 0, true), 1);
    due.is("again on that", x.vote(2, 0, true), -3);
    due.is("again on that, otherwise", x.vote(2, 0, false), -3);
    x.draw(0);
    due.is("with an ACRE now", x.vote(0, 3, true), 2);
    due.is("with an ACRE and a FARM: one vote", x.vote(0, 0, true), -3);
    due.is("no of the other one", x.vote(2, 3, false), 1);
    due.term(3, "a vote each of who may: PEOPLE HERE with a FARM or a TOWN ACRE.");
    SettlerColony y = Colony.settled(4, 29, 8);
    y.law(0);
    due.is("with nothing", y.vote(0, 0, true), -2);
    y.choose(0, 0);
    due.is("ORDER", y.vote(0, 0, false), 1);
    y.buy(1, 1);
    due.is("COUNTRY", y.vote(0, 1, false), 2);
    y.ask(2);
    y.draw(0);
    due.is("an ACRE", y.vote(0, 2, true), 1);
    y.people(1, 0, 99);
    y.order(4);
    due.is("an ORDER at HOME", y.vote(0, 4, true), -2);
    y.ship(0, 0, 0, 0);
    due.is("an ORDER at SEA", y.vote(0, 4, true), -2);
    due.is("an ORDER HERE that is not chosen", y.vote(0, 3, true), -2);
  }

  private static void votes(int yes, int no, int want) {
    SettlerColony x = voters(6);
    x.law(0);
    for (int p = 0; p < yes; p++) due.is("yes", x.vote(0, p, true), p + 1);
    for (int p = 0; p < no; p++) due.is("no", x.vote(0, 5 - p, false), p + 1);
    due.is(yes + " to " + no, x.close(0), want);
    due.is(yes + " to " + no, x.force(0), want);
  }

  private static SettlerColony closed() {
    SettlerColony x = council();
    x.close(0);
    return x;
  }

  private static void close() {
    due.term(3, "if more said yes than no, and as many said yes as the VALUE of votes tells or more, IN FORCE (2) from that WEEK on.");
    votes(0, 0, 1);
    votes(1, 0, 2);
    votes(0, 1, 1);
    votes(1, 1, 1);
    votes(2, 1, 2);
    votes(2, 2, 1);
    votes(3, 3, 1);
    votes(4, 2, 2);
    votes(6, 0, 2);
    due.says(30, "2 IN FORCE, 1 FAILED; -1: it is not PROPOSED.");
    Twins closed = new Twins(due, EdgeLawTest::closed);
    closed.refused("IN FORCE", -1, x -> x.close(0));
    closed.refused("FAILED", -1, x -> x.close(1));
  }

  /** Whether so many yes are enough where votes tells so many. */
  private static void enough(String told, int yes, int want) {
    SettlerColony x = voters(12);
    Colony.enact(x, "votes=" + told + ";");
    x.law(0);
    for (int p = 0; p < yes; p++) x.vote(1, p, true);
    due.is(yes + " where votes is " + told, x.close(1), want);
  }

  private static void votesTold() {
    due.term(3, "and as many said yes as the VALUE of votes tells or more");
    enough("3", 2, 1);
    enough("3", 3, 2);
    enough("3", 4, 2);
    enough("12", 11, 1);
    enough("12", 12, 2);
    enough("13", 12, 1);
    enough("1000", 12, 1);
    enough("0", 0, 1);
    enough("0-5", 1, 2);
    enough("people/2", 5, 1);
    enough("people/2", 6, 2);
    enough("soil+1", 1, 2);
    SettlerColony x = voters(3);
    int law = Colony.law(x, "votes=3;");
    x.vote(law, 0, true);
    due.is("its own VALUE is not in force yet", x.close(law), 2);
    x.law(0);
    x.vote(1, 0, true);
    x.vote(1, 1, true);
    due.is("now it is", x.close(1), 1);
  }

  // ---- assent ----

  private static SettlerColony enacted() {
    SettlerColony x = Colony.busy();
    x.law(0);
    Colony.enact(x, "wage=7;");
    x.close(1);
    x.week(34);
    return x;
  }

  private static void assent() {
    due.says(31, "the WEEK at which that is read here; or, the first of these: -1 the LAW is not IN FORCE; -2 it hasn't been read at"
        + " home; -3 home said so.");
    SettlerColony x = voters(1);
    Colony.enact(x, "wage=7;");
    due.is("just closed", x.assent(0, true), -2);
    x.week(33);
    due.is("33 WEEKS later", x.assent(0, true), -2);
    due.is("33 WEEKS later, no", x.assent(0, false), -2);
    x.week(1);
    due.is("34 WEEKS later", x.assent(0, true), 35 + 68);
    due.is("said so", x.assent(0, true), -3);
    due.is("said otherwise", x.assent(0, false), -3);
    x.week(34);
    due.is("on its way", x.assent(0, false), -3);
    due.is("IN FORCE", x.force(0), 2);
    x.week(1);
    due.is("ASSENTED is not IN FORCE", x.assent(0, false), -1);
    Twins twin = new Twins(due, EdgeLawTest::enacted);
    twin.refused("PROPOSED", -1, y -> y.assent(0, true));
    twin.refused("FAILED", -1, y -> y.assent(1, true));
    Twins early = new Twins(due, EdgeLawTest::justEnacted);
    early.refused("not read at home", -2, y -> y.assent(2, false));
    SettlerColony late = voters(1);
    for (int k = 0; k < 9; k++) late.week(104);
    Colony.enact(late, "wage=7;");
    late.week(29);
    due.is("WEEK", late.count(0), 1000);
    due.is("29 WEEKS later", late.assent(0, true), -2);
    SettlerColony last = voters(1);
    for (int k = 0; k < 8; k++) last.week(104);
    last.week(99);
    Colony.enact(last, "wage=7;");
    last.week(34);
    due.is("WEEK", last.count(0), 1000);
    due.is("read behind the last WEEK", last.assent(0, true), 1034);
  }

  private static SettlerColony justEnacted() {
    SettlerColony x = Colony.busy();
    x.law(0);
    Colony.enact(x, "wage=7;");
    return x;
  }

  private static void readHere() {
    due.term(3, "that is read here 34 WEEKS behind: it is ASSENTED (3), and in force still, or UNDONE (4), and no more in force from"
        + " then on.");
    for (int yes = 0; yes < 2; yes++) {
      SettlerColony x = voters(1);
      Colony.enact(x, "wage=7;");
      Colony.enact(x, "wage=9;");
      x.week(50);
      due.is("50 WEEKS later", x.assent(1, yes == 1), 119);
      x.week(34);
      due.is("the WEEK in which it is read", x.count(0), 119);
      due.is("not read yet", x.force(1), 2);
      due.is("in force", x.means(2, -1), 9);
      x.week(1);
      due.is("read", x.force(1), yes == 1 ? 3 : 4);
      due.is("in force still, or not", x.means(2, -1), yes == 1 ? 9 : 7);
      due.is("why", x.why(2), yes);
      due.is("not asked for again", x.assent(1, true), -1);
      due.is("not closed again", x.close(1), -1);
      due.is("not voted on again", x.vote(1, 0, true), -1);
      due.is("the other one is as it was", x.force(0), 2);
      x.assent(0, false);
      x.week(35);
      due.is("without a LAW", x.means(2, -1), yes == 1 ? 9 : 2);
    }
  }

  /** What becomes of FARMS by each kind of price, if LAW 1 is refused, or assented. */
  private static void undo(String clauses, boolean yes, boolean falls) {
    SettlerColony x = Colony.settled(6, 29, 8);
    x.buy(0, 0);
    Colony.enact(x, "price=7;undo fall;");
    x.buy(1, 1);
    Colony.enact(x, clauses + "price=soil+4;");
    x.buy(2, 2);
    x.choose(0, 3);
    x.buy(2, 4);
    Colony.enact(x, "price=8;");
    x.buy(3, 5);
    Colony.enact(x, "price=1000;wage=0;");
    int[] kinds = {3, 3, 3, 5, 3, 3};
    int[] paid = {20, 7, 9, 20, 9, 8};
    for (int s = 0; s < 6; s++) {
      due.is("HOLDING of " + s, x.section(s, 0), kinds[s]);
      due.is("paid for " + s, x.section(s, 5), paid[s]);
    }
    x.week(34);
    x.assent(1, yes);
    x.week(34);
    int treasury = x.count(5);
    int[] coins = new int[4];
    for (int p = 0; p < 4; p++) coins[p] = x.person(p, 1);
    due.is("as it will be", x.tried(0, -1, 1, 0), falls ? 4 : 6);
    x.week(1);
    for (int s = 0; s < 6; s++) {
      boolean lost = falls && (s == 2 || s == 4);
      due.is(clauses + ": HOLDING of " + s, x.section(s, 0), lost ? 1 : kinds[s]);
      due.is(clauses + ": paid for " + s, x.section(s, 5), lost ? -1 : paid[s]);
    }
    due.is(clauses + ": TREASURY", x.count(5) - treasury, falls ? -18 : 0);
    due.is(clauses + ": what 2 is", x.person(2, 2), falls ? 3 : 4);
    due.is(clauses + ": FARMS of 2", x.person(2, 5), falls ? 0 : 2);
  }

  private static void undone() {
    due.term(3, "UNDONE with undo fall: each COUNTRY (by SECTIONS) for which the LAW that told the price when it was bought is that one"
        + " is a LOT again; its PERSON gets back what was paid, from the TREASURY.");
    undo("undo fall;", false, true);
    undo("undo fall;", true, false);
    undo("undo stand;", false, false);
    undo("", false, false);
    undo("undo fall;undo stand;", false, false);
    undo("undo stand;undo fall;", false, true);
  }

  private static void undoneBelowNothing() {
    due.term(2, "TREASURY (200 at first) may go below 0.");
    SettlerColony x = Colony.owners(2, 5000);
    Colony.enact(x, "price=1000;share=100;undo fall;");
    int treasury = x.count(5);
    x.buy(0, 2);
    x.buy(1, 3);
    x.buy(1, 4);
    due.is("all of it went to PASSAGES", x.count(5), treasury);
    x.week(34);
    x.assent(0, false);
    x.week(34);
    int coins = x.person(1, 1);
    x.week(1);
    due.is("3,000 are paid back", x.count(5), treasury - 3000);
    due.is("2,000 to one", x.person(1, 1), coins + 2000);
    due.is("who is OWN still", x.person(1, 2), 4);
    due.is("FARMS", x.person(1, 5), 1);
    due.is("PASSAGES stay", x.as(104, 0, 5), 20 + 3000);
  }

  private static void lastOfAKind() {
    due.term(3, "of a kind (of a NAME) the last one counts; without undo: stand.");
    SettlerColony x = voters(1);
    Colony.enact(x, "wage=1;fine=2;wage=3;undo fall;fine=4;undo stand;wage=5;");
    due.is("wage", x.means(2, -1), 5);
    due.is("fine", x.means(4, -1), 4);
    Colony.enact(x, "wage=week;wage=6;");
    due.is("the last one", x.means(2, -1), 6);
    Colony.enact(x, "wage=6;wage=week;");
    due.is("the last one", x.means(2, -1), 35);
  }

  private static void means() {
    due.term(3, "MEANING of a NAME: the VALUE of its E in the LAW with the greatest number that is in force and tells it");
    SettlerColony x = voters(1);
    Colony.law(x, "wage=11;");
    Colony.law(x, "wage=12;");
    Colony.law(x, "fine=13;");
    x.vote(1, 0, true);
    x.close(1);
    due.is("the second", x.means(2, -1), 12);
    x.vote(0, 0, true);
    x.close(0);
    due.is("the second still, though the first was closed later", x.means(2, -1), 12);
    x.vote(2, 0, true);
    x.close(2);
    due.is("the third doesn't tell it", x.means(2, -1), 12);
    due.is("but that", x.means(4, -1), 13);
    for (int law = 3; law < 12; law++) Colony.enact(x, "wage=" + (11 + law) + ";");
    due.is("the twelfth", x.means(2, -1), 22);
    due.is("why", x.why(2), 11);
    due.says(33, "IndexOutOfBoundsException: no such SECTION (but NONE); IllegalArgumentException: no such NAME.");
    for (int s : new int[] {-2, 96, Integer.MIN_VALUE, Integer.MAX_VALUE}) {
      due.index("SECTION " + s, () -> x.means(0, s));
      due.index("SECTION " + s + " and NAME 8", () -> x.means(8, s));
    }
    for (int name : new int[] {-1, 8, Integer.MIN_VALUE, Integer.MAX_VALUE}) {
      due.argument("NAME " + name, () -> x.means(name, 0));
      due.argument("NAME " + name + " without", () -> x.means(name, -1));
    }
  }

  private static void why() {
    due.says(34, "the LAW that tells the MEANING of a NAME now; NONE: none. IllegalArgumentException likewise.");
    SettlerColony x = voters(1);
    for (int name = 0; name < 8; name++) due.is("none", x.why(name), -1);
    Colony.enact(x, "wage=2;price=20;");
    due.is("LAW 0, though nothing is altered by it", x.why(2), 0);
    due.is("price", x.why(0), 0);
    due.is("none for run", x.why(3), -1);
    Colony.law(x, "wage=3;");
    due.is("a PROPOSED one is not in force", x.why(2), 0);
    x.close(1);
    due.is("a FAILED one is not in force", x.why(2), 0);
    for (int name : new int[] {-1, 8, Integer.MIN_VALUE, Integer.MAX_VALUE}) due.argument("NAME " + name, () -> x.why(name));
    due.says(32, "What a LAW is, 0 to 4.");
    due.is("IN FORCE", x.force(0), 2);
    due.is("FAILED", x.force(1), 1);
  }
}
