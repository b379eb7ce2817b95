/** Promises 26 to 34: the tape, the language of laws, votes, assent, meanings. */
public final class LawTest {
  private static final Due due = new Due("LawTest");

  public static void main(String[] args) {
    feed();
    law();
    faults();
    faultsOfDepth();
    faultsOfClauses();
    vote();
    close();
    assent();
    undone();
    means();
    values();
    why();
    due.end();
  }

  private static void feed() {
    due.promise(26);
    SettlerColony x = new SettlerColony();
    due.is("twenty", x.feed(0x70726963, 0x65203d20, 0x3b000000, -1, 0), 20);
    due.is("bytes", x.law(9), -9);
    due.is("the highest first: e at 4, no number at 8", x.fault(), 8);
    for (int k = 1; k <= 15; k++) due.is("feed " + k, x.feed(0, 0, 0, 0, 0), 20 * k);
    due.is("full", x.feed(1, 2, 3, 4, 5), -1);
    due.is("nothing done", x.count(13), 300);
    SettlerColony y = new SettlerColony();
    y.feed(0x20202020, 0x20202020, 0x20202020, 0x20202020, 0x20202081);
    due.is("a byte above 127", y.law(20), -9);
    due.is("in the last place", y.fault(), 19);
  }

  private static void law() {
    due.promise(27);
    SettlerColony x = new SettlerColony();
    due.is("no text is a law", x.law(0), 0);
    due.argument("1 of none", () -> x.law(1));
    due.argument("-1", () -> x.law(-1));
    due.is("second", Colony.law(x, "price=5;"), 1);
    due.is("tape is empty", x.count(13), 0);
    Colony.feed(x, "wage=3;undo fall;xyz");
    due.argument("21", () -> x.law(21));
    due.is("an exception leaves the tape", x.count(13), 20);
    due.is("the first bytes", x.law(17), 2);
    due.is("all is empty then", x.count(13), 0);
    due.is("a fault", Colony.law(x, "wage;"), -9);
    due.is("empty then, too", x.count(13), 0);
    due.is("proposed", x.force(2), 0);
    for (int k = 3; k < 12; k++) due.is("more", x.law(0), k);
    due.is("there are 12", x.law(0), -1);
    due.is("12", x.count(7), 12);
    lawWhenFull(x);
    due.index("12", () -> x.force(12));
    due.index("-1", () -> x.force(-1));
  }

  private static void lawWhenFull(SettlerColony x) {
    Colony.feed(x, "price=5;wage=3;");
    due.argument("21 when there are 12", () -> x.law(21));
    due.is("an exception leaves the tape when there are 12", x.count(13), 20);
    due.is("none of the bytes", x.law(0), -1);
    due.is("the tape is empty then", x.count(13), 0);
    due.argument("1 of none when there are 12", () -> x.law(1));
    due.is("a text", Colony.law(x, "price=5;"), -1);
    due.is("empty again", x.count(13), 0);
    due.is("a text with a fault", Colony.law(x, "wage;"), -1);
    due.is("no fault is looked for", x.fault(), -1);
    due.is("empty behind that, too", x.count(13), 0);
    due.is("a feed begins anew", x.feed(0, 0, 0, 0, 0), 20);
    due.is("still 12", x.count(7), 12);
  }

  private static void text(String text, int answer, int place) {
    SettlerColony x = new SettlerColony();
    due.is("law \"" + text + "\"", Colony.law(x, text), answer);
    due.is("fault of \"" + text + "\"", x.fault(), place);
  }

  private static void faults() {
    due.promise(28);
    due.is("none yet", new SettlerColony().fault(), -1);
    String[] right = {"", "   ", "price=1;", " price = 1 ; ", "price=00001;", "undo stand;", "undo fall;undo stand;",
        "price=1;price=2;", "wage=9999;", "run=least(1,2);", "run=most ( week , year ) ;", "run=if(1<2,3,4);",
        "run=if(not 1<2 and [1=2 or 3>4],3,4);", "run=1+2-3*4/5%6;", "run=((1));", "run=(sold)*people;",
        "run=if((1+2)*3<4,5,6);", "fine=1;votes=1;choice=1;squat=1;share=1;", "run=if(not not 1=1,1,0);",
        "run=soil+1;undo fall ;", "run=1 +2;", "run=if(1<2and 3<4,1,2);"};
    for (String t : right) text(t, 0, -1);
    Object[][] wrong = {{"p", 0}, {"pricé=1;", 0}, {"price", 5}, {"price ", 6}, {"price=", 6}, {"price=1", 7},
        {"price=1 ", 8}, {"price=;", 6}, {"price==1;", 6}, {"=1;", 0}, {";", 0}, {"price=1;;", 8}, {"Price=1;", 0},
        {"price=1+;", 8}, {"price=*1;", 6}, {"price=1 2;", 8}, {"price=-1;", 6}, {"price=(1;", 8}, {"price=(1;", 8},
        {"price=1);", 7}, {"price=()", 7}, {"price=least(1);", 13}, {"price=least 1;", 12}, {"price=most(1,2,3);", 14},
        {"price=if(1,2,3);", 10}, {"price=if(1<2,3);", 14}, {"price=if(1<2<3,4,5);", 12}, {"price=1<2;", 7},
        {"price=if([1<2,3,4);", 13}, {"price=if((1<2),3,4);", 11}, {"price=[1];", 6}, {"price=not 1;", 6},
        {"price=if(1<2 or,3,4);", 15}, {"price=if(not,3,4);", 12}, {"undo;", 4}, {"undo  x;", 6}, {"undo fallen;", 5},
        {"undofall;", 0}, {"undo = fall;", 5}, {"fall;", 0}, {"price=weeks;", 6}, {"price=week1;", 10},
        {"price=price;", 6}, {"price=1\t;", 7}, {"price=1\0", 7}, {"prices=1;", 0}, {"price=undo;", 6},
        {"price=iff(1<2,3,4);", 6}, {"price=if(1<2 xor 2<3,4,5);", 13}, {"price=1.5;", 7}, {"price=if(1<=2,3,4);", 11},
        {"price=if(1>2,3,4", 16}, {"share=1;wage", 12}, {"12=1;", 0}, {"12345=1;", 0}, {"price=1 12345;", 8},
        {"price=if(12345", 9}};
    for (int k = 0; k < wrong.length; k++) {
      int kind = wrong[k][0].equals("price=if(12345") ? -8 : -9;
      text((String) wrong[k][0], kind, (Integer) wrong[k][1]);
    }
    text("price=10000;", -8, 6);
    text("price= 0010000", -8, 7);
    text("price=4294967297;", -8, 6);
    text("price=99999999999999999999999999;", -8, 6);
    text("price=1+10000", -8, 8);
    text("price=0000000000000000000000009999;", 0, -1);
    text("price=10000", -8, 6);
    SettlerColony x = new SettlerColony();
    Colony.law(x, "bad");
    due.is("a fault", x.fault(), 0);
    due.argument("n", () -> x.law(5));
    due.is("an exception is no answer", x.fault(), 0);
    Colony.law(x, "price=1;");
    due.is("right again", x.fault(), -1);
  }

  private static void faultsOfDepth() {
    due.promise(28);
    text("run=((((((((1))))))));", 0, -1);
    text("run=(((((((((1)))))))));", -7, 12);
    text("run=((((((((1))))))))+((((((((1))))))));", 0, -1);
    text("run=((((((((1)))))))+;", -9, 21);
    text("run=((((((((least(1,2)))))))));", -7, 17);
    text("run=((((((((least[", -9, 17);
    text("run=(((((((if(1<2,3,4))))))));", 0, -1);
    text("run=((((((((if(1<2,3,4)))))))));", -7, 14);
    text("run=if(not not not not not not not 1<2,3,4);", 0, -1);
    text("run=if(not not not not not not not not 1<2,3,4);", -7, 35);
    text("run=if([[[[[[[1<2]]]]]]],3,4);", 0, -1);
    text("run=if([[[[[[[[1<2]]]]]]]],3,4);", -7, 14);
    text("run=if([[[[[[[(1)<2]]]]]]],3,4);", -7, 14);
    text("run=if([[[[[[not 1<2]]]]]],3,4);", 0, -1);
    text("run=if([[[[[[not (1)<2]]]]]],3,4);", -7, 17);
    text("run=if([[[[[[not 1<2 and not 1<2]]]]]],(3),4);", 0, -1);
    text("run=if([[[[[[not 1<2 or (1)=1]]]]]],(3),4);", 0, -1);
    text("run=if([[[[[[[not 1<2]]]]]]],3,4);", -7, 14);
    text("run=((((((((]", -9, 12);
    text("run=((((((((10000", -8, 12);
  }

  private static void faultsOfClauses() {
    due.promise(28);
    String ten = "run=1;run=1;run=1;run=1;run=1;run=1;run=1;run=1;run=1;run=1;";
    text(ten, 0, -1);
    text(ten + "  ", 0, -1);
    text(ten + "run", -7, 60);
    text(ten + " undo", -7, 61);
    text(ten + "rum=1;", -9, 60);
    text(ten + ";", -9, 60);
    text(ten + "10000", -9, 60);
    text(ten.substring(0, 54) + "undo fall;", 0, -1);
  }

  private static void vote() {
    due.promise(29);
    SettlerColony x = Colony.settled(5, 29, 6);
    x.buy(0, 0);
    x.buy(1, 1);
    x.ask(2);
    x.draw(0);
    x.squat(3, 2);
    x.people(1, 0, 0);
    x.law(0);
    due.is("farm", x.vote(0, 0, true), 1);
    due.is("no", x.vote(0, 1, false), 1);
    due.is("town acre", x.vote(0, 2, true), 2);
    due.is("a squat is no farm", x.vote(0, 3, true), -2);
    due.is("at home", x.vote(0, 5, true), -2);
    due.is("again", x.vote(0, 0, false), -3);
    x.law(0);
    due.is("another law", x.vote(1, 0, false), 1);
    x.close(0);
    due.is("closed", x.vote(0, 4, true), -1);
    due.index("law", () -> x.vote(2, 0, true));
    due.index("law -1", () -> x.vote(-1, 0, true));
    due.index("person", () -> x.vote(1, 6, true));
    due.index("person -1", () -> x.vote(1, -1, true));
    due.index("person of a closed law", () -> x.vote(0, 6, true));
  }

  private static void close() {
    due.promise(30);
    SettlerColony x = Colony.settled(5, 29, 6);
    for (int p = 0; p < 4; p++) x.buy(p, p);
    x.law(0);
    due.is("no votes", x.close(0), 1);
    due.is("again", x.close(0), -1);
    x.law(0);
    x.vote(1, 0, true);
    x.vote(1, 1, false);
    due.is("as many", x.close(1), 1);
    Colony.law(x, "votes=2;");
    x.vote(2, 0, true);
    due.is("one is enough", x.close(2), 2);
    x.law(0);
    x.vote(3, 0, true);
    due.is("two are wanted", x.close(3), 1);
    x.law(0);
    x.vote(4, 0, true);
    x.vote(4, 1, true);
    x.vote(4, 2, false);
    due.is("two of three", x.close(4), 2);
    due.promise(32);
    due.is("failed", x.force(3), 1);
    due.is("in force", x.force(4), 2);
    x.law(0);
    due.is("proposed", x.force(5), 0);
    due.index("6", () -> x.close(6));
    due.index("-1", () -> x.close(-1));
    due.index("6", () -> x.force(6));
    due.promise(30);
    SettlerColony y = Colony.settled(5, 29, 6);
    y.buy(0, 0);
    y.vote(Colony.law(y, "votes=1000;"), 0, true);
    due.is("its own votes do not count", y.close(0), 2);
    SettlerColony z = Colony.settled(5, 29, 6);
    z.buy(0, 0);
    Colony.enact(z, "votes=soil+1;");
    z.law(0);
    z.vote(1, 0, true);
    due.is("votes without soil", z.close(1), 2);
  }

  private static void assent() {
    due.promise(31);
    SettlerColony x = Colony.settled(2, 29, 6);
    x.buy(0, 0);
    int law = Colony.enact(x, "wage=7;");
    int other = Colony.enact(x, "run=7;");
    x.law(0);
    due.is("proposed", x.assent(2, true), -1);
    due.is("not read at home", x.assent(law, true), -2);
    x.week(33);
    due.is("not yet", x.assent(law, true), -2);
    x.week(1);
    due.is("read", x.assent(law, true), 35 + 34 + 34);
    due.is("said", x.assent(law, false), -3);
    x.week(1);
    due.is("later", x.assent(other, false), 104);
    x.week(33);
    due.is("on its way", x.force(law), 2);
    x.week(1);
    due.is("assented", x.force(law), 3);
    due.is("in force still", x.means(2, -1), 7);
    due.is("no more to say", x.assent(law, true), -1);
    due.is("the other", x.means(3, -1), 7);
    x.week(1);
    due.is("undone", x.force(other), 4);
    due.is("no more in force", x.means(3, -1), 5);
    due.is("and not again", x.assent(other, true), -1);
    due.index("3", () -> x.assent(3, true));
    due.index("-1", () -> x.assent(-1, true));
  }

  private static void undone() {
    due.promise(42);
    for (int fall = 0; fall < 3; fall++) {
      SettlerColony x = Colony.settled(4, 29, 8);
      x.choose(0, 0);
      x.week(1);
      String undo = fall == 0 ? "" : fall == 1 ? "undo fall;undo stand;" : "undo stand;undo fall;";
      int law = Colony.enact(x, "price=10;wage=0;choice=0;" + undo);
      x.buy(1, 1);
      x.buy(1, 2);
      x.choose(2, 3);
      x.buy(2, 4);
      Colony.enact(x, "price=9;");
      x.buy(0, 5);
      Colony.enact(x, "price=1000;");
      due.is("by the law", x.section(1, 5), 10);
      x.week(34);
      x.assent(law, false);
      x.week(34);
      due.is("hired all the time", x.person(3, 3), 0);
      int treasury = x.count(5);
      int coins = x.person(1, 1);
      x.week(1);
      boolean falls = fall == 2;
      due.is("bought by it", x.section(1, 0), falls ? 1 : 3);
      due.is("bought by it", x.section(2, 0), falls ? 1 : 3);
      due.is("bought by it", x.section(4, 0), falls ? 1 : 3);
      due.is("chosen", x.section(3, 0), 5);
      due.is("by another law", x.section(5, 0), 3);
      due.is("farms", x.count(3), falls ? 3 : 6);
      due.is("paid back", x.person(1, 1) - coins, falls ? 20 : 0);
      due.is("by the treasury", x.count(5) - treasury, falls ? -30 : 0);
      due.is("who lost the last farm", x.person(1, 2), falls ? 3 : 4);
      due.is("who has one still", x.person(2, 2), 4);
    }
    losesHands();
  }

  private static void losesHands() {
    SettlerColony x = Colony.settled(3, 29, 8);
    x.ask(0);
    x.draw(0);
    x.week(1);
    int law = Colony.enact(x, "price=20;wage=0;undo fall;");
    x.buy(0, 1);
    Colony.enact(x, "price=1000;");
    x.week(34);
    x.assent(law, false);
    x.week(34);
    due.is("both are hired", x.person(0, 4), 2);
    int coins = x.person(0, 1);
    x.week(1);
    due.is("the last farm is lost", x.section(1, 0), 1);
    due.is("paid back", x.person(0, 1), coins + 20);
    for (int p = 0; p < 3; p++) {
      due.is("free", x.person(p, 2), 2);
      due.is("hired by nobody", x.person(p, 3), -1);
      due.is("hired nobody", x.person(p, 4), 0);
    }
  }

  private static void means() {
    due.promise(33);
    SettlerColony x = Colony.settled(2, 29, 6);
    int[] usual = {20, 50, 2, 5, 1, 0, 4, 1};
    for (int name = 0; name < 8; name++) {
      due.is("usual " + name, x.means(name, -1), usual[name]);
      due.is("usual " + name, x.means(name, 95), usual[name]);
    }
    x.buy(0, 0);
    String[] names = {"price", "share", "wage", "run", "fine", "votes", "choice", "squat"};
    int[] most = {1000, 100, 1000, 1000, 1000, 1000, 1000, 1000};
    for (int name = 0; name < 8; name++) {
      if (name == 5) continue;
      Colony.enact(x, names[name] + "=0-1+sold*0;");
      due.is("least of " + names[name], x.means(name, -1), name == 0 ? 1 : 0);
      due.is("least is no more than that", x.why(name) >= 0, true);
    }
    SettlerColony y = Colony.settled(2, 29, 6);
    y.buy(0, 0);
    Colony.enact(y, "price=9999;share=9999;wage=9999;run=9999;fine=9999;choice=9999;squat=9999;votes=9999;");
    for (int name = 0; name < 8; name++) due.is("most of " + names[name], y.means(name, -1), most[name]);
    SettlerColony z = Colony.settled(2, 29, 6);
    z.buy(0, 0);
    z.land(95, 9, false);
    Colony.enact(z, "price=soil+7;share=soil;fine=soil;");
    due.is("of a section", z.means(0, 95), 16);
    due.is("without", z.means(0, -1), 7);
    due.is("share of a section", z.means(1, 0), 5);
    due.index("96", () -> z.means(0, 96));
    due.index("-2", () -> z.means(0, -2));
    due.index("both", () -> z.means(8, 96));
    due.argument("8", () -> z.means(8, 0));
    due.argument("-1", () -> z.means(-1, -1));
  }

  private static void value(String e, int want) {
    SettlerColony x = Colony.settled(2, 29, 6);
    x.buy(0, 0);
    Colony.enact(x, "run=" + e + ";");
    due.is("run=" + e, x.means(3, 0), want);
  }

  private static void values() {
    due.promise(33);
    value("7-2-1", 4);
    value("2+3*4", 14);
    value("(2+3)*4", 20);
    value("100/7", 14);
    value("100%7", 2);
    value("100/7/2", 7);
    value("100/7*7", 98);
    value("(0-7)/2+10", 7);
    value("(0-7)%3+10", 9);
    value("5/0+3", 3);
    value("5%0+3", 3);
    value("9999*9999*9999*9999%1000+500", (int) (9999L * 9999 * 9999 * 9999) % 1000 + 500);
    value("9999*9999*43", 9999 * 9999 * 43 < 0 ? 0 : 1000);
    value("least(3,8)", 3);
    value("most(3,8)", 8);
    value("least(8,3)+most(8,3)", 11);
    value("if(1<2,3,4)", 3);
    value("if(2<2,3,4)", 4);
    value("if(2>1,3,4)", 3);
    value("if(2>2,3,4)", 4);
    value("if(2=2,3,4)", 3);
    value("if(2=3,3,4)", 4);
    value("if(not 2=3,3,4)", 3);
    value("if(1=1 or 1=2 and 1=3,3,4)", 3);
    value("if([1=1 or 1=2]and 1=3,3,4)", 4);
    value("if(not 1=2 and 1=2,3,4)", 4);
    value("if(not[1=2 and 1=2],3,4)", 3);
    value("if(1=2 and 1=1,3,4)", 4);
    value("if(1=2 or 1=1,3,4)", 3);
    value("if(1+1*2=3,3,4)", 3);
    value("week", 35);
    value("week/52+year", 0);
    value("sold", 1);
    value("people", 2);
    value("soil", 5);
    value("if(week>34,if(sold=1,9,8),7)", 9);
  }

  private static void why() {
    due.promise(34);
    SettlerColony x = Colony.settled(2, 29, 6);
    x.buy(0, 0);
    for (int name = 0; name < 8; name++) due.is("none", x.why(name), -1);
    Colony.enact(x, "wage=1;fine=1;");
    Colony.law(x, "wage=2;");
    Colony.enact(x, "wage=3;wage=4;");
    Colony.enact(x, "fine=2;");
    due.is("wage", x.why(2), 2);
    due.is("the last of it counts", x.means(2, -1), 4);
    due.is("fine", x.why(4), 3);
    due.is("price", x.why(0), -1);
    x.week(34);
    x.assent(2, false);
    x.assent(3, true);
    x.week(35);
    due.is("the one before", x.why(2), 0);
    due.is("its value", x.means(2, -1), 1);
    due.is("assented", x.why(4), 3);
    due.argument("8", () -> x.why(8));
    due.argument("-1", () -> x.why(-1));
  }
}
