/** The edges of terms 5 and of promises 35 to 43 and 52, each sentence of the document by itself. */
public final class EdgeHomeTest {
  private static final int UNKNOWN = -2000000000;
  private static final Due due = new Due("EdgeHomeTest");
  private static final Twins twins = new Twins(due, Colony::busy);

  public static void main(String[] args) {
    sea();
    homeKnows();
    quoted();
    quotedOfThen();
    ship();
    shipOfTooMuch();
    shipsPeople();
    landing();
    passages();
    fund();
    bill();
    paid();
    damages();
    pass();
    billed();
    week();
    weekOfAll();
    as();
    asAtTheEnd();
    count();
    due.end();
  }

  private static void sea() {
    due.term(1, "The SEA takes 34 WEEKS either way.");
    SettlerColony x = new SettlerColony();
    x.people(1, 0, 20);
    x.order(0);
    x.ship(0, 0, 0, 0);
    due.is("lands at", x.person(0, 8), 34);
    x.week(34);
    due.is("at SEA", x.person(0, 2), 1);
    due.is("nobody HERE", x.count(2), 0);
    x.week(1);
    due.is("FREE", x.person(0, 2), 2);
    due.is("one HERE", x.count(2), 1);
    due.is("landed at", x.person(0, 8), 34);
  }

  private static void homeKnows() {
    due.term(5, "HOME KNOWS all as it was behind the WEEK that is 34 ahead of this one (nothing if there is none)");
    SettlerColony x = new SettlerColony();
    x.bill(7);
    for (int week = 0; week <= 36; week++) {
      due.is("row 0 at home in WEEK " + week, x.as(0, 1, 3), week < 34 ? UNKNOWN : 207);
      due.is("row 1 at home in WEEK " + week, x.as(1, 1, 3), week < 35 ? UNKNOWN : 207);
      x.week(1);
    }
    SettlerColony y = Colony.settled(2, 29, 4);
    y.ask(0);
    y.draw(0);
    Colony.enact(y, "price=9;");
    y.week(33);
    due.is("a LAW of WEEK 35 in WEEK 68", y.quoted(), 20);
    y.week(1);
    due.is("a LAW of WEEK 35 in WEEK 69", y.quoted(), 9);
  }

  private static void quoted() {
    due.term(5, "20 if it KNOWS nothing");
    SettlerColony x = new SettlerColony();
    for (int week = 0; week < 40; week++) {
      due.is("WEEK " + week, x.quoted(), 20);
      x.week(1);
    }
    due.term(5, "which LAWS were in force, with what was read since by none.");
    SettlerColony y = Colony.settled(2, 29, 4);
    y.ask(0);
    y.draw(0);
    Colony.enact(y, "price=9;");
    Colony.enact(y, "price=11;");
    y.week(34);
    y.assent(1, false);
    due.is("both are known", y.quoted(), 11);
    y.week(35);
    due.is("UNDONE here", y.means(0, -1), 9);
    due.is("in force there", y.quoted(), 11);
    y.week(33);
    due.is("in force there, in WEEK 137", y.quoted(), 9);
    due.is("WEEK", y.count(0), 137);
  }

  private static void quotedOfThen() {
    due.term(5, "(MEANING by the LAWS then in force, with sold, people, week, year of then, soil 0; 20 if it KNOWS nothing)");
    SettlerColony x = Colony.settled(3, 29, 4);
    x.buy(0, 0);
    Colony.enact(x, "price=sold*300+people*100+week-51+year*50+soil*1000;wage=0;");
    x.week(16);
    x.choose(1, 1);
    x.week(18);
    due.is("WEEK 35: one sold, three HERE, 16 less", x.quoted(), 584);
    x.week(15);
    due.is("WEEK 50", x.quoted(), 599);
    x.week(1);
    due.is("WEEK 51: two sold", x.quoted(), 900);
    x.week(1);
    due.is("WEEK 52: a YEAR", x.quoted(), 951);
    due.says(35, "The price as HOME KNOWS it.");
    due.is("not as it is here", x.means(0, -1), 985);
    x.people(1, 0, 951);
    x.people(1, 0, 950);
    due.is("an ORDER at that price", x.order(3), 3);
    due.is("all is paid", x.person(3, 1), 0);
    due.is("a COIN too few", x.order(4), -3);
    Colony.enact(x, "price=0-5;");
    x.week(33);
    due.is("not below 1", x.quoted() > 500, true);
    x.week(1);
    due.is("1 at least", x.quoted(), 1);
    due.is("for 1", x.order(4), 4);
    Colony.enact(x, "price=9999;");
    x.week(34);
    due.is("1,000 at most", x.quoted(), 1000);
  }

  // ---- ships ----

  private static SettlerColony twentyShips() {
    SettlerColony x = Colony.busy();
    for (int k = 1; k < 20; k++) x.ship(0, 0, 0, 0);
    return x;
  }

  private static SettlerColony fullOfPeople() {
    SettlerColony x = Colony.busy();
    x.people(94, 0, 0);
    return x;
  }

  private static void ship() {
    due.says(36, "its number; or, the first of these: -1 a number is below 0; -2 there are 20 SHIPS; -3 there would be more than 100"
        + " PEOPLE; -4 HOME KNOWS of too little.");
    int max = Integer.MAX_VALUE;
    int min = Integer.MIN_VALUE;
    int[][] below = {{-1, 0, 0, 0}, {0, -1, 0, 0}, {0, 0, -1, 0}, {0, 0, 0, -1}, {min, 0, 0, 0}, {min, min, 0, 0}, {-1, 2, 0, 0},
        {-1, max, max, max}, {max, 1, min, 0}};
    Twins twenty = new Twins(due, EdgeHomeTest::twentyShips);
    Twins full = new Twins(due, EdgeHomeTest::fullOfPeople);
    for (int[] n : below) {
      twins.refused("below 0", -1, x -> x.ship(n[0], n[1], n[2], n[3]));
      twenty.refused("below 0, 20 SHIPS", -1, x -> x.ship(n[0], n[1], n[2], n[3]));
      full.refused("below 0, 100 PEOPLE", -1, x -> x.ship(n[0], n[1], n[2], n[3]));
    }
    int[][] many = {{95, 0, 0, 0}, {0, 95, 0, 0}, {0, 0, 95, 0}, {0, 0, 0, 95}, {40, 30, 20, 5}, {max, 0, 0, 0}, {max, 1, 0, 0},
        {max, max, 2, 0}, {max, max, max, max}, {1 << 30, 1 << 30, 1 << 30, 1 << 30}};
    for (int[] n : many) {
      twins.refused("more than 100", -3, x -> x.ship(n[0], n[1], n[2], n[3]));
      full.refused("more than 100", -3, x -> x.ship(n[0], n[1], n[2], n[3]));
      twenty.refused("more than 100, 20 SHIPS", -2, x -> x.ship(n[0], n[1], n[2], n[3]));
    }
    twenty.refused("20 SHIPS", -2, x -> x.ship(0, 0, 0, 0));
    twenty.refused("20 SHIPS, and too little", -2, x -> x.ship(90, 0, 0, 0));
    full.refused("one more", -3, x -> x.ship(0, 0, 0, 1));
    due.is("none more", fullOfPeople().ship(0, 0, 0, 0), 1);
    twins.refused("94 more, too little", -4, x -> x.ship(94, 0, 0, 0));
    twins.refused("nine, too little", -4, x -> x.ship(1, 2, 3, 3));
    due.is("eight for 80", Colony.busy().ship(1, 2, 3, 2), 1);
  }

  private static void shipOfTooMuch() {
    due.term(5, "each costs 10 of what HOME KNOWS of PASSAGES");
    SettlerColony x = new SettlerColony();
    due.is("for nothing", x.ship(0, 0, 0, 0), 0);
    due.is("one", x.ship(0, 1, 0, 0), -4);
    x.people(5, 0, 20);
    x.order(0);
    due.is("three of 20", x.ship(3, 0, 0, 0), -4);
    due.is("two of 20", x.ship(1, 0, 0, 1), 1);
    due.is("one of 0", x.ship(0, 0, 1, 0), -4);
    due.is("nothing is left", x.passages(), 0);
    SettlerColony y = Colony.settled(2, 29, 4);
    y.buy(0, 0);
    Colony.enact(y, "share=45;");
    y.buy(1, 1);
    y.week(33);
    due.is("ORDERS", y.passages(), 40);
    y.week(1);
    due.is("10 and 9 by SALES, 40 by ORDERS", y.passages(), 59);
    due.is("six of 59", y.ship(6, 0, 0, 0), -4);
    due.is("five of 59", y.ship(5, 0, 0, 0), 1);
    due.is("9 are left", y.passages(), 9);
    due.is("one of 9", y.ship(1, 0, 0, 0), -4);
    due.term(5, "SHIPS, 20 at most");
    for (int k = 2; k < 20; k++) due.is("SHIP", y.ship(0, 0, 0, 0), k);
    due.is("a 21st", y.ship(0, 0, 0, 0), -2);
    due.is("SHIPS", y.count(8), 20);
  }

  private static void shipsPeople() {
    due.term(5, "They are new PEOPLE, with 5 COINS each, by TRADES; and all at HOME with an ORDER sail, too (for nothing); they land 34"
        + " WEEKS later.");
    SettlerColony x = new SettlerColony();
    x.people(1, 3, 100);
    x.people(5, 0, 20);
    x.people(1, 0, 20);
    for (int p = 0; p < 6; p++) x.order(p);
    due.is("PASSAGES", x.passages(), 120);
    due.is("SHIP", x.ship(3, 4, 2, 1), 0);
    due.is("ten of 120", x.passages(), 20);
    int[] trades = {0, 0, 0, 1, 1, 1, 1, 2, 2, 3};
    for (int k = 0; k < 10; k++) {
      due.is("TRADE of " + k, x.person(7 + k, 0), trades[k]);
      due.is("COINS of " + k, x.person(7 + k, 1), 5);
      due.is("at SEA", x.person(7 + k, 2), 1);
      due.is("no ORDER", x.person(7 + k, 6), -1);
    }
    due.is("PEOPLE", x.count(1), 17);
    for (int p = 0; p < 6; p++) due.is("an ORDER sails", x.person(p, 2), 1);
    due.is("who has none does not", x.person(6, 2), 0);
    x.week(5);
    x.order(6);
    due.is("at HOME till a SHIP sails", x.person(6, 2), 0);
    x.ship(0, 0, 0, 0);
    due.is("an empty SHIP takes the ORDER", x.person(6, 8), 39);
    due.is("who is at SEA lands as before", x.person(0, 8), 34);
  }

  private static void landing() {
    due.term(6, "(a) SHIPS that are due land, by number: their PEOPLE are FREE.");
    SettlerColony x = new SettlerColony();
    x.people(2, 0, 20);
    x.order(0);
    x.ship(0, 0, 0, 0);
    x.order(1);
    x.ship(1, 0, 0, 0);
    x.week(1);
    x.ship(1, 0, 0, 0);
    x.week(33);
    due.is("nobody", x.count(2), 0);
    x.week(1);
    due.is("two SHIPS of WEEK 0", x.count(2), 3);
    x.week(1);
    due.is("the SHIP of WEEK 1", x.count(2), 4);
    for (int p = 0; p < 4; p++) due.is("FREE", x.person(p, 2), 2);
    due.is("landed at", x.person(3, 8), 35);
  }

  private static void passages() {
    due.term(5, "all that came by SALES up to that WEEK, and by ORDERS up to now, less what all SHIPS cost.");
    SettlerColony x = Colony.settled(2, 29, 4);
    due.is("two ORDERS", x.passages(), 40);
    x.people(1, 0, 20);
    x.order(2);
    due.is("three ORDERS, at once", x.passages(), 60);
    x.ship(0, 6, 0, 0);
    due.is("a SHIP, at once", x.passages(), 0);
    x.week(2);
    x.buy(0, 0);
    x.week(33);
    due.is("a SALE of WEEK 37 in WEEK 70", x.passages(), 0);
    x.week(1);
    due.is("a SALE of WEEK 37 in WEEK 71", x.passages(), 10);
    due.says(37, "What HOME KNOWS of PASSAGES (may be below 0: it spent more).");
    due.is("none", new SettlerColony().passages(), 0);
  }

  // ---- bills ----

  private static void fund() {
    due.says(38, "So much comes to the home FUND: what it has. IllegalArgumentException: it is not 0 to 100,000.");
    SettlerColony x = new SettlerColony();
    due.is("0", x.fund(0), 0);
    due.is("1", x.fund(1), 1);
    due.is("100,000", x.fund(100000), 100001);
    due.is("again", x.fund(100000), 200001);
    for (int much : new int[] {-1, 100001, Integer.MIN_VALUE, Integer.MAX_VALUE}) {
      twins.argument("FUND " + much, y -> y.fund(much));
    }
  }

  private static SettlerColony twentyBills() {
    SettlerColony x = Colony.busy();
    for (int k = 1; k < 20; k++) x.bill(k);
    return x;
  }

  private static void bill() {
    due.says(39, "its number; -1: there are 20. IllegalArgumentException: the sum is not 1 to 10,000.");
    SettlerColony x = new SettlerColony();
    due.is("1", x.bill(1), 0);
    due.is("10,000", x.bill(10000), 1);
    due.is("to the TREASURY at once", x.count(5), 10201);
    for (int k = 2; k < 20; k++) due.is("BILL", x.bill(1), k);
    due.is("a 21st", x.bill(1), -1);
    due.is("BILLS", x.count(9), 20);
    Twins twenty = new Twins(due, EdgeHomeTest::twentyBills);
    twenty.refused("a 21st", -1, y -> y.bill(1));
    for (int sum : new int[] {0, -1, 10001, Integer.MIN_VALUE, Integer.MAX_VALUE}) {
      twins.argument("a sum of " + sum, y -> y.bill(sum));
      twenty.argument("a sum of " + sum + ", 20 BILLS", y -> y.bill(sum));
    }
  }

  /** What a BILL is, whose sum is 10, if the FUND has so much when it is seen. */
  private static void fundOf(int much, int want) {
    SettlerColony x = new SettlerColony();
    x.bill(10);
    x.fund(much);
    x.week(35);
    due.is("FUND " + much, x.billed(0), want);
    due.is("left of " + much, x.count(12), want == 1 ? much - 10 : much);
    x.week(34);
    due.is("then", x.billed(0), want == 1 ? 1 : 3);
    due.is("TREASURY", x.count(5), want == 1 ? 210 : 198);
  }

  private static void paid() {
    due.term(5, "paid, if the home FUND (0 at first) has as much (it has less then), else it goes back");
    fundOf(0, 2);
    fundOf(9, 2);
    fundOf(10, 1);
    fundOf(11, 1);
    fundOf(100000, 1);
    due.term(6, "(b) What is read: of LAWS by number, then BILLS by number.");
    SettlerColony x = new SettlerColony();
    x.bill(10);
    x.bill(5);
    x.bill(7);
    x.bill(2);
    x.fund(14);
    x.week(35);
    int[] want = {1, 2, 2, 1};
    for (int k = 0; k < 4; k++) due.is("BILL " + k + " of a FUND of 14", x.billed(k), k == 1 ? 2 : want[k]);
    due.is("left", x.count(12), 2);
    SettlerColony y = new SettlerColony();
    y.bill(10);
    y.week(34);
    y.fund(10);
    y.week(1);
    due.is("in time", y.billed(0), 1);
    SettlerColony z = new SettlerColony();
    z.bill(10);
    z.week(35);
    z.fund(100);
    z.week(34);
    due.is("too late", z.billed(0), 3);
    due.is("FUND", z.count(12), 100);
  }

  private static void damagesOf(int sum, int hands, int want) {
    SettlerColony x = new SettlerColony();
    x.bill(sum);
    for (int k = 0; k < hands; k++) x.pass(0);
    x.week(68);
    due.is("on its way back: nothing is lost", x.count(5), 200 + sum);
    x.week(1);
    due.is("DAMAGES of " + sum + ", " + hands + " hands", 200 - x.count(5), want);
    x.week(70);
    due.is("once", 200 - x.count(5), want);
  }

  private static void damages() {
    due.term(5, "DAMAGES: 20 hundredths of it, cut, and a COIN more for each hand that it went through (5 at most).");
    damagesOf(1, 0, 0);
    damagesOf(4, 0, 0);
    damagesOf(5, 0, 1);
    damagesOf(9, 0, 1);
    damagesOf(10, 0, 2);
    damagesOf(99, 0, 19);
    damagesOf(10000, 0, 2000);
    damagesOf(1, 1, 1);
    damagesOf(1, 5, 5);
    damagesOf(1, 6, 5);
    damagesOf(10000, 5, 2005);
    due.term(2, "TREASURY (200 at first) may go below 0.");
    SettlerColony x = new SettlerColony();
    for (int k = 0; k < 20; k++) x.bill(10000);
    x.week(69);
    due.is("far below 0", x.count(5), 200 - 40000);
    due.is("in its row, too", x.as(68, 0, 3), 200 - 40000);
  }

  private static SettlerColony passed() {
    SettlerColony x = Colony.busy();
    x.bill(1);
    x.bill(3);
    for (int k = 0; k < 5; k++) x.pass(0);
    x.pass(1);
    x.week(35);
    return x;
  }

  private static void pass() {
    due.says(40, "how many it went through; -1: 5; -2: it was seen at home (the first of these).");
    SettlerColony x = new SettlerColony();
    x.bill(10);
    x.bill(10);
    for (int k = 1; k <= 5; k++) due.is("hand", x.pass(1), k);
    due.is("a sixth", x.pass(1), -1);
    due.is("the other one", x.pass(0), 1);
    x.week(34);
    due.is("not seen in WEEK 34", x.pass(0), 2);
    x.week(1);
    due.is("seen", x.pass(0), -2);
    Twins twin = new Twins(due, EdgeHomeTest::passed);
    twin.refused("5, and seen", -1, y -> y.pass(0));
    twin.refused("paid", -2, y -> y.pass(1));
    twin.refused("on its way back", -2, y -> y.pass(2));
    SettlerColony back = passed();
    back.week(34);
    due.is("back", back.billed(2), 3);
    due.is("back, one hand", back.pass(2), -2);
    due.is("back, five hands", back.pass(0), -1);
    due.says(40, "IndexOutOfBoundsException: no such BILL (so below).");
    for (int b : new int[] {-1, 1, 20, Integer.MIN_VALUE, Integer.MAX_VALUE}) {
      twins.index("pass of " + b, y -> y.pass(b));
      twins.index("billed of " + b, y -> y.billed(b));
    }
  }

  private static void billed() {
    due.says(41, "What a BILL is: 0 on its way, 1 paid, 2 on its way back, 3 back.");
    SettlerColony x = new SettlerColony();
    x.week(3);
    x.bill(10);
    x.bill(11);
    x.fund(10);
    int[] weeks = {34, 1, 33, 1, 104};
    int[] first = {0, 1, 1, 1, 1};
    int[] second = {0, 2, 2, 3, 3};
    for (int k = 0; k < weeks.length; k++) {
      x.week(weeks[k]);
      due.is("paid, WEEK " + x.count(0), x.billed(0), first[k]);
      due.is("not paid, WEEK " + x.count(0), x.billed(1), second[k]);
    }
  }

  // ---- weeks ----

  private static SettlerColony nearTheEnd() {
    SettlerColony x = Colony.busy();
    Colony.go(x, 897 - 35);
    return x;
  }

  private static SettlerColony atTheEnd() {
    SettlerColony x = Colony.busy();
    Colony.go(x, 965);
    return x;
  }

  private static void week() {
    due.says(42, "So many WEEKS go by: the WEEK. IllegalArgumentException: they are not 0 to 104; IllegalStateException: it would be above"
        + " 1,000.");
    SettlerColony x = new SettlerColony();
    due.is("none", x.week(0), 0);
    due.is("104", x.week(104), 104);
    due.is("one", x.week(1), 105);
    twins.refused("none", 35, y -> y.week(0));
    Twins near = new Twins(due, EdgeHomeTest::nearTheEnd);
    Twins end = new Twins(due, EdgeHomeTest::atTheEnd);
    for (int weeks : new int[] {-1, 105, Integer.MIN_VALUE, Integer.MAX_VALUE}) {
      twins.argument("WEEKS " + weeks, y -> y.week(weeks));
      end.argument("WEEKS " + weeks + " at the end", y -> y.week(weeks));
    }
    near.state("104 from 897 on", y -> y.week(104));
    due.is("103 from 897 on", nearTheEnd().week(103), 1000);
    end.state("one from 1,000 on", y -> y.week(1));
    end.state("104 from 1,000 on", y -> y.week(104));
    end.refused("none from 1,000 on", 1000, y -> y.week(0));
  }

  private static void weekOfAll() {
    due.term(1, "WEEK is 0 at first, 1,000 at most.");
    SettlerColony x = new SettlerColony();
    due.is("at first", x.count(0), 0);
    Colony.go(x, 1000);
    due.is("at most", x.count(0), 1000);
    due.state("no more", () -> x.week(1));
    due.is("calls are answered still", x.people(1, 0, 50), 0);
    due.is("an ORDER", x.order(0), 0);
    due.is("a SHIP", x.ship(1, 0, 0, 0), 0);
    due.is("that would land at 1,034", x.person(0, 8), 1034);
    due.is("a BILL", x.bill(3), 0);
    due.is("RAIN", x.fell(0, 1000), 10);
  }

  private static void as() {
    due.says(43, "of its row 0 PEOPLE HERE, 1 FARMS, 2 STORE, 3 TREASURY, 4 HUNGRY, 5 PASSAGES by SALES; known here (place 0) or at home"
        + " now (1); -2,000,000,000: that is not known there.");
    SettlerColony x = Colony.busy();
    int[] here = {4, 2, 500 - 4 - 4, 210 + 5 + 10, 0, 10};
    for (int what = 0; what < 6; what++) {
      due.is("WEEK 35 in WEEK 35", x.as(35, 0, what), UNKNOWN);
      due.is("WEEK 34 in WEEK 35", x.as(34, 0, what) != UNKNOWN, true);
      due.is("WEEK 1 at home in WEEK 35", x.as(1, 1, what) != UNKNOWN, true);
      due.is("WEEK 2 at home in WEEK 35", x.as(2, 1, what), UNKNOWN);
      due.is("WEEK -1", x.as(-1, 0, what), UNKNOWN);
      due.is("WEEK -1 at home", x.as(-1, 1, what), UNKNOWN);
    }
    x.week(1);
    for (int what = 0; what < 6; what++) due.is("row 35, " + what, x.as(35, 0, what), here[what]);
    for (int week : new int[] {36, 1000, 1001, Integer.MAX_VALUE, Integer.MIN_VALUE, -34, -35}) {
      due.is("WEEK " + week, x.as(week, 0, 0), UNKNOWN);
      due.is("WEEK " + week + " at home", x.as(week, 1, 0), UNKNOWN);
    }
    SettlerColony first = new SettlerColony();
    due.is("no row yet", first.as(0, 0, 2), UNKNOWN);
    first.week(1);
    due.is("row 0", first.as(0, 0, 2), 500);
    due.is("row 1", first.as(1, 0, 2), UNKNOWN);
    due.says(43, "IllegalArgumentException: another place, what.");
    for (int other : new int[] {-1, 6, Integer.MIN_VALUE, Integer.MAX_VALUE}) {
      due.argument("what " + other, () -> x.as(35, 0, other));
      due.argument("what " + other + " that is not known", () -> x.as(99, 1, other));
    }
    for (int other : new int[] {-1, 2, Integer.MIN_VALUE, Integer.MAX_VALUE}) {
      due.argument("place " + other, () -> x.as(35, other, 0));
      due.argument("place " + other + " of no WEEK", () -> x.as(-1, other, 0));
    }
  }

  private static void asAtTheEnd() {
    due.term(6, "Then a row is written of this WEEK: PEOPLE HERE, FARMS, STORE, TREASURY, how often somebody was HUNGRY so far, PASSAGES"
        + " that came by SALES so far. WEEK is one more.");
    SettlerColony x = atTheEnd();
    int[] counts = {2, 3, 4, 5, 6};
    for (int what = 0; what < 5; what++) due.is("the last row, " + what, x.as(999, 0, what), x.count(counts[what]));
    due.is("no row 1,000", x.as(1000, 0, 0), UNKNOWN);
    due.is("row 966 at home", x.as(966, 1, 0), x.as(966, 0, 0));
    due.is("row 967 at home", x.as(967, 1, 0), UNKNOWN);
    due.is("people are HUNGRY", x.as(999, 0, 4) > 0, true);
    SettlerColony y = Colony.settled(1, 29, 4);
    y.buy(0, 0);
    y.week(1);
    y.bill(100);
    due.is("a row is as it was", y.as(35, 0, 3), 210);
    due.is("not as it is", y.count(5), 310);
  }

  private static void count() {
    due.says(52, "0 WEEK, 1 PEOPLE, 2 HERE, 3 FARMS, 4 STORE, 5 TREASURY, 6 HUNGRY, 7 LAWS, 8 SHIPS, 9 BILLS, 10 PARTIES, 11 ORDERS, 12"
        + " home FUND, 13 bytes of the TAPE, 14 TOWN ACRES drawn; NONE for others.");
    SettlerColony x = Colony.busy();
    int[] want = {35, 6, 4, 2, 496, 225, 0, 1, 1, 1, 1, 4, 3, 20, 0};
    for (int what = 0; what < want.length; what++) due.is("count(" + what + ")", x.count(what), want[what]);
    for (int what : new int[] {-1, 15, Integer.MIN_VALUE, Integer.MAX_VALUE}) due.is("count(" + what + ")", x.count(what), -1);
    x.draw(0);
    due.is("ACRES", x.count(14), 2);
  }
}
