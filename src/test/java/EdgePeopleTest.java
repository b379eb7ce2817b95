/** The edges of terms 2 and 5 and of promises 10, 11 and 16 to 25, each sentence of the document by itself. */
public final class EdgePeopleTest {
  private static final int[] NO_SECTIONS = {-1, 96, Integer.MIN_VALUE, Integer.MAX_VALUE};
  private static final int[] NO_PEOPLE = {-1, 6, 100, Integer.MIN_VALUE, Integer.MAX_VALUE};
  private static final Due due = new Due("EdgePeopleTest");
  private static final Twins twins = new Twins(due, Colony::busy);

  public static void main(String[] args) {
    people();
    person();
    coinsOfAHarvest();
    coinsOfAWage();
    coinsPaidBack();
    ownAndFree();
    freeAreAll();
    hiredNoMore();
    ask();
    draw();
    acre();
    noSuch();
    buy();
    share();
    order();
    choose();
    chooseInTurn();
    run();
    squat();
    stock();
    fence();
    due.end();
  }

  // ---- promises 10 and 11, terms 2 ----

  private static SettlerColony hundred() {
    SettlerColony x = Colony.busy();
    x.people(94, 0, 3);
    return x;
  }

  private static void people() {
    due.term(2, "PEOPLE, numbered from 0 on, 100 at most");
    SettlerColony x = new SettlerColony();
    due.is("101", x.people(101, 0, 0), -1);
    due.is("100", x.people(100, 0, 0), 0);
    due.is("the last", x.person(99, 2), 0);
    due.index("PERSON 100", () -> x.person(100, 0));
    due.is("all", x.count(1), 100);
    due.says(10, "the first one's number; -1: there would be more than 100; -2: so many are below 0 (the first of these).");
    SettlerColony y = new SettlerColony();
    due.is("one", y.people(1, 0, 0), 0);
    due.is("99 more", y.people(99, 1, 0), 1);
    Twins full = new Twins(due, EdgePeopleTest::hundred);
    for (int many : new int[] {1, 2, Integer.MAX_VALUE}) full.refused(many + " more", -1, z -> z.people(many, 0, 0));
    for (int many : new int[] {-1, -100, -101, Integer.MIN_VALUE, Integer.MIN_VALUE + 100}) {
      full.refused(many + " more", -2, z -> z.people(many, 0, 0));
      twins.refused(many + " more", -2, z -> z.people(many, 0, 0));
    }
    twins.refused("95 to six", -1, z -> z.people(95, 0, 0));
    due.is("94 to six", Colony.busy().people(94, 0, 0), 6);
    due.says(10, "IllegalArgumentException: TRADE, or COINS.");
    for (int trade : new int[] {-1, 4, Integer.MIN_VALUE, Integer.MAX_VALUE}) {
      twins.argument("TRADE " + trade, z -> z.people(1, trade, 0));
      full.argument("TRADE " + trade + " of too many", z -> z.people(1, trade, 0));
      due.argument("TRADE " + trade + " of too few", () -> y.people(-1, trade, 0));
    }
    for (int coins : new int[] {-1, 1000001, Integer.MIN_VALUE, Integer.MAX_VALUE}) {
      twins.argument("COINS " + coins, z -> z.people(1, 0, coins));
      full.argument("COINS " + coins + " of too many", z -> z.people(1, 0, coins));
    }
    due.is("0 COINS and TRADE 3", Colony.busy().people(1, 3, 0), 6);
    due.is("1,000,000 COINS and TRADE 0", Colony.busy().people(1, 0, 1000000), 6);
  }

  private static void person() {
    due.says(11, "0 TRADE, 1 COINS, 2 what the PERSON is (0 to 4), 3 by whom HIRED (NONE), 4 how many that one hired, 5 FARMS, 6 the"
        + " ORDER (NONE), 7 how often HUNGRY, 8 the WEEK of landing (NONE: at HOME).");
    SettlerColony x = Colony.busy();
    int[][] want = {{0, 9, 4, -1, 0, 2, 0, 0, 34}, {0, 24, 2, -1, 0, 0, 1, 0, 34}, {0, 23, 2, -1, 0, 0, 2, 0, 34}};
    for (int p = 0; p < 3; p++) {
      for (int what = 0; what < 9; what++) due.is("person(" + p + ", " + what + ")", x.person(p, what), want[p][what]);
    }
    int[] home = {1, 40, 0, -1, 0, 0, -1, 0, -1};
    for (int what = 0; what < 9; what++) due.is("person(5, " + what + ")", x.person(5, what), home[what]);
    x.ship(1, 0, 0, 0);
    int[] sea = {0, 5, 1, -1, 0, 0, -1, 0, 69};
    for (int what = 0; what < 9; what++) due.is("person(6, " + what + ")", x.person(6, what), sea[what]);
    x.week(1);
    due.is("HIRED by 0", x.person(1, 3), 0);
    due.is("HIRED", x.person(1, 2), 3);
    due.is("has hired three", x.person(0, 4), 3);
    due.says(11, "IndexOutOfBoundsException: no such PERSON (so below); IllegalArgumentException: another what.");
    for (int p : new int[] {-1, 7, 100, Integer.MIN_VALUE, Integer.MAX_VALUE}) {
      due.index("PERSON " + p, () -> x.person(p, 0));
      due.index("PERSON " + p + " and what", () -> x.person(p, 9));
    }
    for (int what : new int[] {-1, 9, Integer.MIN_VALUE, Integer.MAX_VALUE}) due.argument("what " + what, () -> x.person(0, what));
  }

  /** PERSON 0, of 1,000,000 COINS, buys an ORDER and SECTION 0 (SOIL 9): 999,960; each YEAR yields 27, and 13 COINS. */
  private static SettlerColony richFarmer() {
    SettlerColony x = new SettlerColony();
    x.rains(0, 20, 400);
    x.land(0, 9, false);
    x.party(9);
    x.queue(0, 0);
    x.people(1, 0, 1000000);
    x.order(0);
    x.ship(0, 0, 0, 0);
    x.week(35);
    return x;
  }

  private static void coinsOfAHarvest() {
    due.term(2, "COINS (from 0 to 1,000,000; what would be above is lost).");
    SettlerColony x = richFarmer();
    due.is("40 are spent", x.person(0, 1), 999960);
    x.week(17);
    int[] coins = {999973, 999986, 999999, 1000000, 1000000};
    for (int year = 0; year < coins.length; year++) {
      due.is("COINS behind YEAR " + year, x.person(0, 1), coins[year]);
      x.week(52);
    }
  }

  private static void coinsOfAWage() {
    SettlerColony x = new SettlerColony();
    x.party(9);
    x.queue(0, 0);
    x.people(1, 0, 100);
    x.people(1, 0, 1000000);
    x.order(0);
    x.order(1);
    x.ship(0, 0, 0, 0);
    x.week(35);
    due.is("HIRED, with 20 less", x.person(1, 3) + x.person(1, 1), 999980);
    x.week(10);
    due.is("ten wages of 2", x.person(1, 1), 1000000);
    due.is("the one who hired", x.person(0, 1), 40);
    x.week(1);
    due.is("what is above is lost", x.person(1, 1), 1000000);
    due.is("but paid", x.person(0, 1), 38);
  }

  private static void coinsPaidBack() {
    SettlerColony x = richFarmer();
    x.queue(0, 1);
    Colony.enact(x, "price=1;undo fall;");
    x.week(69);
    x.week(104);
    due.is("no LOT is bought by one who is OWN", x.section(1, 0), 1);
    due.is("bought", x.buy(0, 1), 1);
    due.is("999,999", x.person(0, 1), 999999);
    x.week(52);
    due.is("1,000,000", x.person(0, 1), 1000000);
    x.assent(0, false);
    x.week(34);
    int treasury = x.count(5);
    x.week(1);
    due.is("a LOT again", x.section(1, 0), 1);
    due.is("paid back above 1,000,000", x.person(0, 1), 1000000);
    due.is("from the TREASURY", x.count(5), treasury - 1);
  }

  private static void ownAndFree() {
    due.term(2, "Who gets a FARM is OWN from then on; who loses the last one is FREE, and so are all whom that one hired.");
    for (int order = 0; order < 2; order++) {
      SettlerColony x = Colony.settled(6, 29, 8);
      x.ask(0);
      x.draw(0);
      Colony.enact(x, "price=20;undo fall;");
      due.is("FREE", x.person(0, 2), 2);
      x.buy(0, 0);
      due.is("OWN", x.person(0, 2), 4);
      Colony.enact(x, "price=1000;wage=0;");
      if (order == 1) x.choose(0, 1);
      x.week(34);
      x.assent(0, false);
      x.week(34);
      due.is("four are HIRED", x.person(0, 4), 4);
      for (int p = 1; p < 6; p++) due.is("what " + p + " is", x.person(p, 2), p < 5 ? 3 : 2);
      int coins = x.person(0, 1);
      x.week(1);
      due.is("the FARM is lost", x.section(0, 0), 1);
      due.is("what was paid for it", x.section(0, 5), -1);
      due.is("20 are paid back, and 12 by five who work on the FARM that is left", x.person(0, 1) - coins, order == 1 ? 32 : 20);
      due.is("OWN if another is left", x.person(0, 2), order == 1 ? 4 : 2);
      due.is("FARMS", x.person(0, 5), order);
      due.is("hired", x.person(0, 4), order == 1 ? 4 : 0);
      for (int p = 1; p < 5; p++) {
        due.is("what " + p + " is", x.person(p, 2), order == 1 ? 3 : 2);
        due.is("by whom " + p + " is HIRED", x.person(p, 3), order == 1 ? 0 : -1);
      }
    }
  }

  /** PERSON 1 has hired 0 and 2 to 4, and loses all. */
  private static void freeAreAll() {
    due.term(2, "and so are all whom that one hired.");
    SettlerColony x = Colony.settled(6, 29, 8);
    x.ask(0);
    x.draw(0);
    Colony.enact(x, "price=20;wage=0;undo fall;");
    x.buy(1, 0);
    Colony.enact(x, "price=1000;wage=0;");
    x.week(34);
    x.assent(0, false);
    x.week(34);
    int[] bosses = {1, -1, 1, 1, 1, -1};
    for (int p = 0; p < 6; p++) due.is("by whom " + p + " is HIRED", x.person(p, 3), bosses[p]);
    x.week(1);
    for (int p = 0; p < 6; p++) {
      due.is("what " + p + " is", x.person(p, 2), 2);
      due.is("by whom " + p + " is HIRED", x.person(p, 3), -1);
      due.is("how many " + p + " hired", x.person(p, 4), 0);
    }
  }

  private static void hiredNoMore() {
    due.term(2, "Who is HIRED and gets a FARM is hired no more.");
    for (int kind = 0; kind < 2; kind++) {
      SettlerColony x = Colony.settled(4, 26, 8);
      x.choose(0, 0);
      x.week(1);
      due.is("HIRED", x.person(1, 2), 3);
      due.is("has hired", x.person(0, 4), 3);
      due.is("gets a FARM", kind == 0 ? x.buy(1, 1) : x.choose(1, 1), kind == 0 ? 20 : 1);
      due.is("OWN", x.person(1, 2), 4);
      due.is("by nobody", x.person(1, 3), -1);
      due.is("has hired one less", x.person(0, 4), 2);
      x.week(1);
      due.is("no wage any more", x.person(1, 1), kind == 0 ? 6 : 26);
      due.is("the others have theirs", x.person(2, 1), 28);
      due.is("from the one who hired", x.person(0, 1), 22);
    }
    SettlerColony zero = Colony.settled(3, 26, 8);
    zero.choose(0, 7);
    due.is("PERSON 0 is OWN", zero.person(0, 2), 4);
    SettlerColony first = Colony.settled(3, 26, 8);
    first.buy(1, 1);
    first.week(1);
    due.is("PERSON 0 is HIRED", first.person(0, 3), 1);
    first.buy(0, 0);
    due.is("and buys", first.person(0, 2), 4);
    due.is("by nobody", first.person(0, 3), -1);
    due.is("one less", first.person(1, 4), 1);
    due.term(2, "or OWN (4): has a FARM");
    SettlerColony y = Colony.settled(2, 29, 8);
    y.run(1, 1);
    due.is("a PASTURE is no FARM", y.person(1, 2), 2);
    y.buy(0, 0);
    y.week(1);
    due.is("HIRED with a RUN", y.person(1, 2), 3);
    due.is("a SQUAT of one who is HIRED", y.squat(1, 2), 1);
    due.is("HIRED still", y.person(1, 2), 3);
  }

  // ---- promises 16 to 18 ----

  private static SettlerColony askers() {
    SettlerColony x = Colony.settled(14, 0, 0);
    for (int p = 0; p < 3; p++) x.ask(p);
    x.draw(0);
    for (int p = 3; p < 12; p++) x.ask(p);
    x.people(1, 0, 0);
    return x;
  }

  private static void ask() {
    due.says(16, "(who HERE; once each; till 12 ask)");
    SettlerColony x = Colony.settled(14, 0, 0);
    for (int p = 0; p < 12; p++) due.is("how many ask", x.ask(13 - p), p + 1);
    due.is("a 13th", x.ask(0), -3);
    due.is("once each", x.ask(2), -2);
    x.draw(0);
    due.is("none is left", x.ask(0), -3);
    due.is("has one", x.ask(13), -2);
    due.says(16, "-1: the PERSON isn't HERE; -2: has one, or asks; -3: there are no more (those who ask, those drawn, 12 together).");
    Twins full = new Twins(due, EdgePeopleTest::askers);
    full.refused("at HOME", -1, y -> y.ask(14));
    full.refused("has one", -2, y -> y.ask(0));
    full.refused("asks", -2, y -> y.ask(11));
    full.refused("three have one and nine ask", -3, y -> y.ask(12));
    twins.refused("at HOME", -1, y -> y.ask(4));
    SettlerColony sea = Colony.busy();
    sea.ship(1, 0, 0, 0);
    due.is("at SEA", sea.ask(6), -1);
    for (int p : NO_PEOPLE) twins.index("PERSON " + p, y -> y.ask(p));
    SettlerColony z = Colony.settled(14, 0, 0);
    for (int p = 0; p < 11; p++) z.ask(p);
    z.draw(0);
    due.is("the last one", z.ask(11), 1);
    due.is("no more", z.ask(12), -3);
    due.is("it is drawn", z.draw(0), 1);
    due.is("by the last ACRE", z.acre(11), 11);
  }

  private static void draw() {
    due.says(17, "(numbered by the place at which each is among those left, as they asked, the first figure the highest: 0 is the"
        + " order in which they asked)");
    int[][] rows = {{0, 1, 2}, {0, 2, 1}, {1, 0, 2}, {1, 2, 0}, {2, 0, 1}, {2, 1, 0}};
    for (int number = 0; number < 6; number++) {
      SettlerColony x = Colony.settled(3, 0, 0);
      for (int p = 0; p < 3; p++) x.ask(p);
      due.is("how many", x.draw(number), 3);
      for (int k = 0; k < 3; k++) due.is("ACRE " + k + " by " + number, x.acre(k), rows[number][k]);
    }
    due.says(17, "the next ACRES go to them so: how many.");
    SettlerColony y = Colony.settled(12, 0, 0);
    y.ask(5);
    due.is("one", y.draw(0), 1);
    y.ask(4);
    y.ask(3);
    due.is("two", y.draw(1), 2);
    due.is("the first stays", y.acre(0), 5);
    due.is("then", y.acre(1), 3);
    due.is("then", y.acre(2), 4);
    due.is("nobody asks any more", y.draw(0), 0);
    due.is("drawn", y.count(14), 3);
    due.says(17, "IllegalArgumentException: it is not 0 to how many orders there are, less one.");
    int[] orders = {1, 1, 2, 6, 24, 120, 720, 5040, 40320, 362880, 3628800, 39916800, 479001600};
    for (int many = 0; many <= 12; many++) {
      int askers = many;
      Twins asked = new Twins(due, () -> asking(askers));
      for (int number : new int[] {-1, Integer.MIN_VALUE, orders[many], Integer.MAX_VALUE}) {
        asked.argument("number " + number + " of " + many, x -> x.draw(number));
      }
      SettlerColony x = asking(many);
      due.is("the last order of " + many, x.draw(orders[many] - 1), many);
      for (int k = 0; k < many; k++) due.is("ACRE " + k + " of " + many, x.acre(k), many - 1 - k);
    }
  }

  private static SettlerColony asking(int many) {
    SettlerColony x = Colony.settled(12, 0, 0);
    for (int p = 0; p < many; p++) x.ask(p);
    return x;
  }

  private static void acre() {
    due.term(2, "TOWN ACRES (2), 0 to 11: nobody's, till they are drawn.");
    SettlerColony x = asking(12);
    for (int k = 0; k < 12; k++) due.is("asked for, not drawn", x.acre(k), -1);
    x.draw(0);
    for (int k = 0; k < 12; k++) due.is("drawn", x.acre(k), k);
    due.says(18, "IndexOutOfBoundsException: no such ACRE.");
    for (int k : new int[] {-1, 12, Integer.MIN_VALUE, Integer.MAX_VALUE}) due.index("ACRE " + k, () -> x.acre(k));
  }

  // ---- promises 19 to 25 ----

  private static void noSuch() {
    due.says(19, "IndexOutOfBoundsException: no such PERSON, SECTION (so below).");
    for (int p : NO_PEOPLE) both("PERSON " + p, p, 4);
    for (int s : NO_SECTIONS) both("SECTION " + s, 0, s);
    for (int p : NO_PEOPLE) twins.index("order of " + p, x -> x.order(p));
  }

  private static void both(String what, int p, int s) {
    twins.index("buy: " + what, x -> x.buy(p, s));
    twins.index("choose: " + what, x -> x.choose(p, s));
    twins.index("run: " + what, x -> x.run(p, s));
    twins.index("squat: " + what, x -> x.squat(p, s));
    twins.index("fence: " + what, x -> x.fence(p, s));
    twins.index("stock: " + what, x -> x.stock(p, s, 1));
    twins.index("stock of 1,001: " + what, x -> x.stock(p, s, 1001));
  }

  private static void buy() {
    due.says(19, "what was paid; or, the first of these: -1 the PERSON isn't HERE; -2 it is no LOT; -3 too few COINS.");
    twins.refused("at HOME, not a LOT", -1, x -> x.buy(4, 0));
    twins.refused("at HOME, a LOT", -1, x -> x.buy(4, 4));
    for (int s : new int[] {0, 1, 2, 3, 8}) twins.refused("no LOT: " + s, -2, x -> x.buy(3, s));
    twins.refused("no LOT, and 9 COINS", -2, x -> x.buy(0, 2));
    twins.refused("9 COINS", -3, x -> x.buy(0, 4));
    SettlerColony sea = Colony.busy();
    sea.ship(1, 0, 0, 0);
    due.is("at SEA", sea.buy(6, 4), -1);
    due.term(5, "SALE of a LOT to a PERSON HERE with as many COINS as the price (with its SOIL)");
    for (int coins = 18; coins < 22; coins++) {
      SettlerColony x = Colony.settled(1, coins, 2);
      due.is(coins + " COINS", x.buy(0, 1), coins < 20 ? -3 : 20);
      due.is("left of " + coins, x.person(0, 1), coins < 20 ? coins : coins - 20);
      due.is("HOLDING", x.section(1, 0), coins < 20 ? 1 : 3);
    }
    SettlerColony y = Colony.settled(2, 29, 8);
    y.buy(0, 0);
    due.is("by one who is OWN, 9 COINS", y.buy(0, 1), -3);
    Colony.enact(y, "price=soil*9-36;");
    due.is("the price with SOIL 5", y.buy(0, 1), 9);
    due.is("two FARMS", y.person(0, 5), 2);
    due.is("no COINS", y.person(0, 1), 0);
  }

  private static void sale(int price, int share, int passages) {
    SettlerColony x = Colony.owners(1, 5000);
    Colony.enact(x, "price=" + price + ";share=" + share + ";");
    int treasury = x.count(5);
    due.is("price " + price, x.buy(0, 1), price);
    due.is("share " + share + " of " + price + ": the rest", x.count(5) - treasury, price - passages);
    x.week(1);
    due.is("share " + share + " of " + price, x.as(36, 0, 5), 10 + passages);
  }

  private static void share() {
    due.term(5, "share hundredths of the price, cut, go to PASSAGES, the rest to the TREASURY.");
    sale(1, 50, 0);
    sale(1, 99, 0);
    sale(1, 100, 1);
    sale(3, 34, 1);
    sale(3, 33, 0);
    sale(99, 1, 0);
    sale(100, 1, 1);
    sale(199, 1, 1);
    sale(1000, 0, 0);
    sale(1000, 100, 1000);
    sale(999, 99, 989);
    sale(1000, 99, 990);
  }

  private static void order() {
    due.says(20, "its number; or, the first of these: -1 the PERSON isn't at HOME; -2 has one; -3 too few COINS.");
    twins.refused("HERE, with one", -1, x -> x.order(0));
    SettlerColony y = Colony.busy();
    due.is("at HOME", y.order(5), 4);
    due.is("has one, and 20 COINS", y.order(5), -2);
    y.people(1, 0, 19);
    y.people(1, 0, 20);
    due.is("19 COINS", y.order(6), -3);
    due.is("20 COINS", y.order(7), 5);
    due.is("has one, and none", y.order(7), -2);
    due.is("none is left", y.person(7, 1), 0);
    y.ship(0, 0, 0, 0);
    due.is("at SEA, with one", y.order(7), -1);
    new Twins(due, EdgePeopleTest::withOrder).refused("has one", -2, x -> x.order(4));
    new Twins(due, EdgePeopleTest::withOrder).refused("too few", -3, x -> x.order(6));
    due.term(5, "all of it goes to PASSAGES; ORDERS are numbered as they were bought.");
    SettlerColony z = new SettlerColony();
    z.people(3, 0, 20);
    due.is("the first", z.order(2), 0);
    due.is("the second", z.order(0), 1);
    due.is("PASSAGES", z.passages(), 40);
    due.is("TREASURY", z.count(5), 200);
    due.is("ORDERS", z.count(11), 2);
    due.is("by PERSON", z.person(0, 6), 1);
    z.ship(0, 0, 0, 0);
    due.is("who has none is at HOME still", z.person(1, 2), 0);
    due.is("and may have one", z.order(1), 2);
  }

  private static SettlerColony withOrder() {
    SettlerColony x = Colony.busy();
    x.order(4);
    x.people(1, 0, 19);
    return x;
  }

  private static void choose() {
    due.says(21, "1; or, the first of these: -1 no ORDER, or it was chosen; -2 the PERSON isn't HERE; -3 it is no LOT; -4 it is"
        + " another one's turn.");
    twins.refused("it was chosen", -1, x -> x.choose(0, 4));
    twins.refused("it was chosen, no LOT", -1, x -> x.choose(0, 0));
    twins.refused("no ORDER, at HOME", -1, x -> x.choose(4, 4));
    Twins home = new Twins(due, EdgePeopleTest::withOrder);
    home.refused("at HOME, a LOT", -2, x -> x.choose(4, 4));
    home.refused("at HOME, no LOT", -2, x -> x.choose(4, 0));
    SettlerColony sea = withOrder();
    sea.ship(0, 0, 0, 0);
    due.is("at SEA", sea.choose(4, 4), -2);
    for (int s : new int[] {0, 1, 2, 3, 8}) twins.refused("no LOT: " + s, -3, x -> x.choose(2, s));
    twins.refused("another one's turn", -4, x -> x.choose(2, 4));
    SettlerColony y = Colony.busy();
    due.is("whose turn it is", y.choose(1, 4), 1);
    due.is("ORDER", y.section(4, 0), 5);
    due.is("what was paid", y.section(4, 5), 20);
    due.is("no COINS are paid", y.person(1, 1), 24);
    due.is("OWN", y.person(1, 2), 4);
    due.is("then the next one's", y.choose(2, 5), 1);
    SettlerColony ship = Colony.busy();
    ship.ship(1, 0, 0, 0);
    ship.week(35);
    due.is("HERE, no ORDER", ship.choose(6, 7), -1);
  }

  /** Three with ORDERS 0 to 2 landed in WEEK 34; by that choice, so many WEEKS behind WEEK 35, the last one chooses. */
  private static void turn(int choice, int weeks, int want) {
    SettlerColony x = Colony.settled(3, 29, 8);
    if (choice != 4) {
      x.ask(0);
      x.draw(0);
      Colony.enact(x, "choice=" + choice + ";");
    }
    x.week(weeks);
    due.is("choice " + choice + ", HERE for " + (1 + weeks) + " WEEKS", x.choose(2, 7), want);
  }

  private static void chooseInTurn() {
    due.term(5, "if none of a lower number, not chosen, is HERE and has been so for less than choice WEEKS.");
    turn(4, 0, -4);
    turn(4, 2, -4);
    turn(4, 3, 1);
    turn(0, 0, 1);
    turn(1, 0, 1);
    turn(2, 0, -4);
    turn(2, 1, 1);
    turn(1000, 90, -4);
    SettlerColony x = Colony.settled(2, 29, 8);
    x.people(2, 0, 60);
    x.order(3);
    x.ship(0, 0, 0, 0);
    x.order(2);
    x.week(35);
    due.is("a lower number, at SEA, is not HERE", x.person(3, 2) + x.person(2, 2), 4);
    x.ship(0, 0, 0, 0);
    x.week(35);
    due.is("landed just now, of the greatest number", x.choose(2, 7), 1);
    SettlerColony y = Colony.settled(1, 29, 8);
    y.people(2, 0, 49);
    y.order(1);
    y.ship(0, 0, 0, 0);
    y.order(2);
    y.week(1);
    y.ship(0, 0, 0, 0);
    y.week(34);
    due.is("number 2 is at SEA", y.choose(1, 7), 1);
    SettlerColony z = Colony.settled(1, 29, 8);
    z.people(2, 0, 49);
    z.order(2);
    z.order(1);
    z.ship(0, 0, 0, 0);
    z.week(35);
    due.is("PERSON 1 has the greater number", z.choose(1, 7), -4);
    due.is("PERSON 2 has the lower one", z.choose(2, 7), 1);
    due.is("it was chosen: it bars no more", z.choose(1, 6), 1);
  }

  private static void run() {
    due.says(22, "what was paid; or, the first of these: -1 the PERSON isn't HERE; -2 it is none of these; -3 too few COINS.");
    twins.refused("at HOME, a LOT", -1, x -> x.run(4, 4));
    twins.refused("at HOME, a FARM", -1, x -> x.run(4, 0));
    for (int s : new int[] {0, 1, 2, 3, 8}) twins.refused("none of these: " + s, -2, x -> x.run(3, s));
    Twins poor = new Twins(due, EdgePeopleTest::fourCoins);
    poor.refused("4 COINS, a LOT", -3, x -> x.run(0, 4));
    poor.refused("4 COINS, the own RUN", -3, x -> x.run(0, 5));
    poor.refused("4 COINS, another one's RUN", -2, x -> x.run(0, 2));
    poor.refused("4 COINS, another one's SQUAT", -2, x -> x.run(0, 3));
    SettlerColony five = Colony.settled(1, 5, 2);
    due.is("5 COINS", five.run(0, 1), 5);
    due.is("none is left", five.person(0, 1), 0);
    due.is("to the TREASURY", five.count(5), 205);
    due.says(22, "on a SQUAT or a RUN of the PERSON (52 WEEKS from now; STOCK and FENCE stay)");
    SettlerColony x = Colony.settled(1, 29, 4);
    x.squat(0, 1);
    x.stock(0, 1, 1);
    x.fence(0, 1);
    due.is("a SQUAT", x.run(0, 1), 5);
    int[] want = {4, 0, 87, 1, 1, -1, 0};
    for (int what = 0; what < 7; what++) due.is("RUN " + what, x.section(1, what), want[what]);
    x.week(52);
    due.is("in the WEEK ahead of its end", x.section(1, 2), 87);
    due.is("a RUN", x.run(0, 1), 5);
    due.is("52 WEEKS from now", x.section(1, 2), 139);
    due.is("STOCK stays", x.section(1, 3), 1);
    due.is("FENCE stays", x.section(1, 4), 1);
    x.week(52);
    due.is("it did not end at 87", x.section(1, 0), 4);
    x.week(1);
    due.is("it ends at 139", x.section(1, 0), 1);
    SettlerColony free = Colony.settled(1, 0, 4);
    free.ask(0);
    free.draw(0);
    Colony.enact(free, "run=0;");
    due.is("for nothing", free.run(0, 1), 0);
    due.is("a RUN", free.section(1, 0), 4);
  }

  /** As busy(), but PERSON 0 has 4 COINS, and RUN 5. */
  private static SettlerColony fourCoins() {
    SettlerColony x = Colony.busy();
    x.run(0, 5);
    return x;
  }

  private static void squatBy(int leave, int want) {
    SettlerColony x = Colony.settled(1, 0, 4);
    x.ask(0);
    x.draw(0);
    Colony.enact(x, "squat=" + leave + ";");
    due.is("squat " + leave, x.squat(0, 1), want);
  }

  private static void squat() {
    due.says(23, "1; or, the first of these: -1 the PERSON isn't HERE; -2 it is no LOT; -3 the MEANING of squat is 0.");
    twins.refused("at HOME, a LOT", -1, x -> x.squat(4, 4));
    twins.refused("at HOME, no LOT", -1, x -> x.squat(4, 0));
    for (int s : new int[] {0, 1, 2, 3, 8}) twins.refused("no LOT: " + s, -2, x -> x.squat(3, s));
    twins.refused("a SQUAT of the own", -2, x -> x.squat(2, 3));
    Twins forbidden = new Twins(due, EdgePeopleTest::noSquats);
    forbidden.refused("at HOME, no leave", -1, x -> x.squat(4, 4));
    forbidden.refused("no LOT, no leave", -2, x -> x.squat(3, 3));
    forbidden.refused("no leave", -3, x -> x.squat(3, 4));
    squatBy(0, -3);
    squatBy(1, 1);
    squatBy(2, 1);
    squatBy(1000, 1);
    SettlerColony x = Colony.settled(1, 0, 4);
    due.is("without a LAW, and without COINS", x.squat(0, 3), 1);
    due.is("it doesn't end", x.section(3, 2), -1);
    due.is("nothing is paid", x.count(5), 200);
  }

  private static SettlerColony noSquats() {
    SettlerColony x = Colony.busy();
    x.law(0);
    Colony.enact(x, "squat=0;");
    return x;
  }

  /** PERSON 0 has FARM 0, SQUAT 1 with 990 STOCK, and so many COINS. */
  private static SettlerColony herd(int coins) {
    SettlerColony x = Colony.owners(1, 2020 + coins);
    x.squat(0, 1);
    x.stock(0, 1, 990);
    return x;
  }

  private static void stock() {
    due.says(24, "-1 the PERSON has not that PASTURE; -2 too few COINS; -3 there would be more than 1,000.");
    for (int s : new int[] {0, 1, 3, 4, 8}) twins.refused("not that PASTURE: " + s, -1, x -> x.stock(1, s, 0));
    twins.refused("at HOME", -1, x -> x.stock(4, 3, 0));
    twins.refused("not that PASTURE, and too few", -1, x -> x.stock(0, 3, 1000));
    Twins poor = new Twins(due, () -> herd(19));
    poor.refused("19 COINS", -2, x -> x.stock(0, 1, 10));
    poor.refused("19 COINS, and too many", -2, x -> x.stock(0, 1, 11));
    Twins rich = new Twins(due, () -> herd(22));
    rich.refused("1,001", -3, x -> x.stock(0, 1, 11));
    due.is("just enough COINS", herd(20).stock(0, 1, 10), 1000);
    SettlerColony x = herd(20);
    due.is("none", x.stock(0, 1, 0), 990);
    due.is("nine", x.stock(0, 1, 9), 999);
    due.is("2 COINS each", x.person(0, 1), 2);
    due.is("one", x.stock(0, 1, 1), 1000);
    due.is("no COINS are left", x.person(0, 1), 0);
    due.is("none for nothing", x.stock(0, 1, 0), 1000);
    due.is("one more: too few COINS first", x.stock(0, 1, 1), -2);
    due.is("TREASURY", x.count(5), 210);
    SettlerColony y = Colony.owners(1, 2040);
    y.run(0, 1);
    y.run(0, 2);
    due.is("995 on a RUN", y.stock(0, 1, 995), 995);
    due.is("1,000 want 2,000 COINS", y.stock(0, 2, 1000), -2);
    SettlerColony z = Colony.owners(1, 2040);
    z.squat(0, 2);
    due.is("1,000 at once", z.stock(0, 2, 1000), 1000);
    due.says(24, "IllegalArgumentException: they are not 0 to 1,000.");
    for (int many : new int[] {-1, 1001, Integer.MIN_VALUE, Integer.MAX_VALUE}) {
      rich.argument("STOCK " + many, w -> w.stock(0, 1, many));
      twins.argument("STOCK " + many + " on no PASTURE", w -> w.stock(1, 0, many));
    }
  }

  private static void fence() {
    due.says(25, "1; or, the first of these: -1 the PERSON has not that PASTURE; -2 it has one; -3 too few COINS.");
    for (int s : new int[] {0, 1, 3, 4, 8}) twins.refused("not that PASTURE: " + s, -1, x -> x.fence(1, s));
    twins.refused("at HOME", -1, x -> x.fence(4, 3));
    due.says(25, "A FENCE at a PASTURE, for 15 COINS (a smith: 5)");
    for (int trade = 0; trade < 4; trade++) {
      int price = trade == 2 ? 5 : 15;
      int of = trade;
      SettlerColony x = squatter(of, price);
      due.is("just enough for TRADE " + trade, x.fence(0, 1), 1);
      due.is("all is paid", x.person(0, 1), 0);
      due.is("FENCE", x.section(1, 4), 1);
      due.is("TREASURY", x.count(5), 200);
      due.is("has one, and no COINS", x.fence(0, 1), -2);
      due.is("another one's", x.fence(1, 1), -1);
      new Twins(due, () -> squatter(of, price - 1)).refused("a COIN too few for TRADE " + trade, -3, y -> y.fence(0, 1));
    }
    SettlerColony x = Colony.settled(1, 29, 4);
    x.run(0, 1);
    due.is("a RUN", x.fence(0, 1), 1);
    due.is("24 less 15", x.person(0, 1), 9);
  }

  /** PERSON 0 of that TRADE has SQUAT 1 and so many COINS; PERSON 1 is HERE, too. */
  private static SettlerColony squatter(int trade, int coins) {
    SettlerColony x = new SettlerColony();
    x.party(9);
    x.queue(0, 1);
    x.people(1, trade, coins + 20);
    x.people(1, 0, 20);
    x.order(0);
    x.order(1);
    x.ship(0, 0, 0, 0);
    x.week(35);
    x.squat(0, 1);
    return x;
  }
}
