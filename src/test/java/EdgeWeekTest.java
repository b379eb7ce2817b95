/** The edges of terms 6, what a WEEK does, each sentence of the document by itself. */
public final class EdgeWeekTest {
  private static final Due due = new Due("EdgeWeekTest");

  public static void main(String[] args) {
    order();
    wageThatIsThere();
    wagesByNumber();
    freedAndHired();
    whoMayBuy();
    bestLot();
    bestLotByRain();
    whoHires();
    fewestHired();
    eats();
    strays();
    fines();
    finesBySections();
    strayAheadOfTheEnd();
    ends();
    bands();
    rainIsOfAYear();
    yields();
    breeds();
    lastWeekOnly();
    due.end();
  }

  private static void order() {
    due.term(6, "A WEEK goes by, in this order. (a) SHIPS that are due land, by number: their PEOPLE are FREE.");
    SettlerColony x = new SettlerColony();
    x.party(7);
    x.people(1, 0, 50);
    x.people(1, 0, 20);
    x.order(0);
    x.order(1);
    x.ship(0, 0, 0, 0);
    x.week(34);
    x.queue(0, 0);
    due.is("STORE", x.count(4), 500);
    x.week(1);
    due.is("landed, surveyed and bought in one WEEK", x.section(0, 1), 0);
    due.is("and hired", x.person(1, 3), 0);
    due.is("no wage yet", x.person(1, 1), 0);
    due.is("and both have eaten", x.count(4), 498);
    due.is("all of it in its row", x.as(34, 0, 1), 1);
    due.term(6, "(b) What is read: of LAWS by number, then BILLS by number. (c) PARTIES.");
    SettlerColony y = Colony.settled(2, 27, 8);
    y.buy(0, 0);
    Colony.enact(y, "wage=0;");
    y.week(34);
    y.assent(0, false);
    y.week(34);
    due.is("no wage so far", y.person(1, 1), 27);
    y.week(1);
    due.is("UNDONE ahead of the wages of that WEEK", y.person(1, 1), 29);
  }

  private static void wage(int coins, int weeks, int is, int left) {
    SettlerColony x = Colony.settled(2, coins, 8);
    x.buy(0, 0);
    x.week(weeks);
    String what = coins - 20 + " COINS, behind " + weeks + " WEEKS: ";
    due.is(what + "what 1 is", x.person(1, 2), is);
    due.is(what + "by whom HIRED", x.person(1, 3), is == 3 ? 0 : -1);
    due.is(what + "COINS of 0", x.person(0, 1), left);
    due.is(what + "COINS of 1", x.person(1, 1), coins + coins - 20 - left);
  }

  private static void wageThatIsThere() {
    due.term(6, "first each who is HIRED gets the wage of who hired, or, if that one has less, is FREE");
    wage(20, 1, 2, 0);
    wage(21, 1, 2, 1);
    wage(22, 1, 3, 2);
    wage(22, 2, 3, 0);
    wage(22, 3, 2, 0);
    wage(23, 2, 3, 1);
    wage(23, 3, 2, 1);
    wage(24, 3, 3, 0);
    wage(24, 4, 2, 0);
    SettlerColony x = Colony.settled(2, 20, 8);
    x.buy(0, 0);
    Colony.enact(x, "wage=0;");
    x.week(9);
    due.is("0 is there without COINS", x.person(1, 3), 0);
    SettlerColony y = Colony.owners(1, 1040);
    y.people(1, 0, 20);
    y.order(1);
    y.ship(0, 0, 0, 0);
    Colony.enact(y, "wage=1000;");
    y.week(35);
    due.is("HIRED at 1,000", y.person(1, 3), 0);
    y.week(1);
    due.is("1,000 of 1,002 are paid", y.person(0, 1), 2);
    due.is("and spent on a LOT at once", y.person(1, 1), 1000 - 20);
  }

  private static void wagesByNumber() {
    due.term(6, "(d) PEOPLE HERE, one after the other by number");
    SettlerColony x = Colony.settled(3, 23, 8);
    x.buy(0, 0);
    x.week(1);
    due.is("both are HIRED", x.person(0, 4), 2);
    x.week(1);
    due.is("the first has a wage", x.person(1, 1), 25);
    due.is("and is HIRED", x.person(1, 2), 3);
    due.is("the second has none", x.person(2, 1), 23);
    due.is("and is FREE", x.person(2, 2), 2);
    due.is("one is left", x.person(0, 4), 1);
    SettlerColony y = Colony.settled(3, 28, 8);
    y.buy(2, 7);
    y.week(2);
    due.is("0 buys of a wage", y.section(0, 1), 0);
    due.is("1 of another", y.section(1, 1), 1);
    SettlerColony one = Colony.settled(3, 28, 2);
    one.buy(2, 1);
    one.week(2);
    due.is("one LOT: the first by number", one.section(0, 1), 0);
    due.is("the second is HIRED still", one.person(1, 3), 2);
  }

  private static void freedAndHired() {
    due.term(6, "then who is FREE still is HIRED by the one who is OWN");
    SettlerColony x = Colony.settled(3, 24, 8);
    x.buy(0, 0);
    x.buy(1, 1);
    x.week(3);
    due.is("HIRED by the least number", x.person(2, 3), 0);
    due.is("who has nothing left", x.person(0, 1), 0);
    x.week(1);
    due.is("FREE, and HIRED by the other one, in one WEEK", x.person(2, 3), 1);
    due.is("without a wage", x.person(2, 1), 28);
    due.is("hired by 0", x.person(0, 4), 0);
    due.is("hired by 1", x.person(1, 4), 1);
  }

  /** Whether two with so many COINS buy at that price. */
  private static void buys(int coins, int price, boolean bought) {
    SettlerColony x = Colony.settled(2, coins, 8);
    x.ask(0);
    x.draw(0);
    Colony.enact(x, "price=" + price + ";");
    x.week(1);
    for (int p = 0; p < 2; p++) {
      String what = p + " of " + coins + " COINS at " + price;
      due.is(what, x.section(p, 1), bought ? p : -1);
      due.is(what + ": COINS", x.person(p, 1), bought ? coins - price : coins);
      due.is(what + ": is", x.person(p, 2), bought ? 4 : 2);
    }
  }

  private static void whoMayBuy() {
    due.term(6, "if that one's price and 10 are not more than the COINS, it is bought (5.)");
    buys(29, 19, true);
    buys(29, 20, false);
    buys(29, 18, true);
    buys(11, 1, true);
    buys(10, 1, false);
    buys(29, 1000, false);
    due.term(6, "then who is FREE, or HIRED, may buy");
    SettlerColony x = Colony.settled(2, 28, 8);
    x.buy(0, 0);
    x.week(1);
    due.is("HIRED", x.person(1, 2), 3);
    x.week(1);
    due.is("a wage more", x.person(1, 2), 4);
    due.is("bought", x.section(1, 1), 1);
    due.is("10 are left", x.person(1, 1), 10);
    due.is("hired by 0", x.person(0, 4), 0);
    SettlerColony y = Colony.owners(1, 1000);
    y.week(3);
    due.is("who is OWN buys no more", y.person(0, 5), 1);
    SettlerColony z = Colony.settled(2, 29, 0);
    Colony.law(z, "price=1;");
    z.week(1);
    due.is("no LOT", z.count(3), 0);
  }

  private static void bestLot() {
    due.term(6, "the one with the greatest PROMISE (then the least SECTION)");
    SettlerColony x = new SettlerColony();
    int[] soils = {3, 8, 8, 9, 9, 0};
    x.party(9);
    for (int s = 0; s < 6; s++) {
      x.land(s, soils[s], s == 3);
      x.queue(0, s);
    }
    x.people(7, 0, 50);
    for (int p = 0; p < 7; p++) x.order(p);
    x.ship(0, 0, 0, 0);
    x.week(35);
    int[] sections = {3, 4, 1, 2, 0, 5};
    for (int p = 0; p < 6; p++) due.is("the LOT of " + p, x.section(sections[p], 1), p);
    due.is("none is left", x.person(6, 5), 0);
    due.is("the LOT that is bought has the price of its SOIL", bestOfTwo("100-soil*9"), 19);
    due.is("a LOT that is not the best is not bought", bestOfTwo("soil*9-30"), -1);
  }

  /** By that price (20 at most are there): what was paid for SECTION 50 (SOIL 9), a LOT ahead of 0 (SOIL 5). */
  private static int bestOfTwo(String price) {
    SettlerColony x = Colony.settled(1, 29, 0);
    x.ask(0);
    x.draw(0);
    Colony.enact(x, "price=" + price + ";");
    x.land(50, 9, false);
    x.queue(0, 50);
    x.queue(0, 0);
    x.week(9);
    due.is("SECTION 0 is a LOT", x.section(0, 0), 1);
    return x.section(50, 5);
  }

  private static void bestLotByRain() {
    SettlerColony x = new SettlerColony();
    x.party(9);
    x.land(1, 4, false);
    x.land(3, 8, false);
    x.queue(0, 0);
    x.queue(0, 1);
    x.queue(0, 3);
    x.people(1, 0, 20);
    x.people(1, 0, 22);
    for (int p = 0; p < 2; p++) x.order(p);
    x.ship(0, 0, 0, 0);
    x.week(35);
    x.squat(0, 0);
    x.people(1, 0, 60);
    x.week(17);
    x.order(2);
    x.ship(0, 0, 0, 0);
    due.is("SOIL 4 and 520 by 10", x.promise(1), 92);
    due.is("SOIL 8 without", x.promise(3), 80);
    x.week(35);
    due.is("the greater PROMISE, not the better SOIL", x.section(1, 1), 2);
    due.is("a LOT still", x.section(3, 0), 1);
  }

  private static void whoHires() {
    due.term(6, "has fewer than 4 hired, and wage COINS or more");
    SettlerColony x = Colony.settled(7, 22, 8);
    x.buy(6, 0);
    x.week(1);
    for (int p = 0; p < 6; p++) due.is("by whom " + p + " is HIRED", x.person(p, 3), p < 4 ? 6 : -1);
    for (int p = 0; p < 6; p++) due.is("what " + p + " is", x.person(p, 2), p < 4 ? 3 : 2);
    due.is("four", x.person(6, 4), 4);
    SettlerColony y = Colony.settled(2, 29, 8);
    y.buy(0, 0);
    Colony.enact(y, "wage=9;");
    y.week(1);
    due.is("9 of 9", y.person(1, 3), 0);
    SettlerColony z = Colony.settled(2, 29, 8);
    z.buy(0, 0);
    Colony.enact(z, "wage=10;");
    z.week(1);
    due.is("9 of 10", z.person(1, 3), -1);
    SettlerColony w = Colony.settled(2, 29, 8);
    w.run(0, 0);
    w.week(1);
    due.is("who has a PASTURE alone is not OWN", w.person(1, 3), -1);
  }

  private static void fewestHired() {
    due.term(6, "of these with the fewest hired, then the least number");
    SettlerColony x = Colony.settled(11, 22, 8);
    x.buy(3, 0);
    x.buy(8, 1);
    x.week(1);
    int[] bosses = {3, 8, 3, -1, 8, 3, 8, 3, -1, 8, -1};
    for (int p = 0; p < 11; p++) due.is("by whom " + p + " is HIRED", x.person(p, 3), bosses[p]);
    SettlerColony y = Colony.settled(3, 29, 8);
    y.buy(0, 0);
    y.buy(1, 1);
    Colony.enact(y, "wage=5;");
    y.run(0, 2);
    y.week(1);
    due.is("the least number has 4 COINS", y.person(2, 3), 1);
    SettlerColony z = Colony.settled(4, 29, 8);
    z.buy(2, 0);
    z.week(1);
    z.buy(3, 1);
    due.is("two are HIRED by 2", z.person(2, 4), 2);
    z.people(1, 1, 20);
    z.order(4);
    z.ship(0, 0, 0, 0);
    Colony.law(z, "wage=0;");
    z.vote(0, 2, true);
    z.close(0);
    z.week(35);
    due.is("3 has the fewest", z.person(4, 3), 3);
  }

  private static void eats() {
    due.term(6, "then each eats 1 of the STORE, or is HUNGRY (once more)");
    SettlerColony x = Colony.settled(7, 0, 0);
    x.week(70);
    due.is("three are left", x.count(4), 3);
    due.is("nobody is HUNGRY", x.count(6), 0);
    x.week(1);
    due.is("none is left", x.count(4), 0);
    for (int p = 0; p < 7; p++) due.is("HUNGRY: " + p, x.person(p, 7), p < 3 ? 0 : 1);
    due.is("four times", x.count(6), 4);
    x.week(2);
    for (int p = 0; p < 7; p++) due.is("HUNGRY: " + p, x.person(p, 7), p < 3 ? 2 : 3);
    due.is("all the time", x.count(6), 18);
    due.is("the STORE is not below 0", x.count(4), 0);
    SettlerColony y = Colony.settled(50, 0, 0);
    y.week(9);
    due.is("just enough", y.count(4), 0);
    due.is("nobody is HUNGRY", y.count(6), 0);
    y.people(3, 0, 0);
    y.week(1);
    due.is("all HERE are", y.count(6), 50);
    due.is("who is at HOME is not", y.person(50, 7), 0);
    due.is("the STORE that comes in that WEEK comes too late", hungryAtTheHarvest(), 1);
  }

  /** 25 PEOPLE, the first with a FARM, have eaten all ahead of WEEK 51: how often the first was HUNGRY in it. */
  private static int hungryAtTheHarvest() {
    SettlerColony x = new SettlerColony();
    x.rains(0, 20, 52);
    x.party(9);
    x.queue(0, 0);
    x.people(1, 0, 50);
    x.people(39, 0, 20);
    for (int p = 0; p < 40; p++) x.order(p);
    x.ship(0, 0, 0, 0);
    x.week(51);
    int before = x.person(0, 7);
    x.week(1);
    due.is("a harvest of 5 by 3 by hands", x.count(4) > 0, true);
    return x.person(0, 7) - before;
  }

  // ---- (f), (g) ----

  private static void stray(int stock, int left) {
    SettlerColony x = Colony.owners(1, 2100);
    x.squat(0, 20);
    x.stock(0, 20, stock);
    x.run(0, 32);
    due.is("STOCK of a RUN", x.stock(0, 32, 0), 0);
    x.week(1);
    due.is("STOCK of " + stock, x.section(20, 3), left);
  }

  private static void strays() {
    due.term(6, "(f) STRAY: each PASTURE (by SECTIONS) with 8 STOCK or more and no FENCE: an eighth, cut");
    stray(0, 0);
    stray(7, 7);
    stray(8, 7);
    stray(9, 8);
    stray(15, 14);
    stray(16, 14);
    stray(23, 21);
    stray(24, 21);
    stray(999, 875);
    stray(1000, 875);
    due.term(6, "without such a NEIGHBOUR it is lost.");
    SettlerColony x = Colony.owners(1, 2000);
    x.run(0, 20);
    x.stock(0, 20, 80);
    x.squat(0, 22);
    x.stock(0, 22, 80);
    x.fence(0, 22);
    x.buy(0, 19);
    x.squat(0, 1);
    x.stock(0, 1, 80);
    x.week(1);
    due.is("of a RUN, too; the own FARM is none", x.section(20, 3), 70);
    due.is("a FENCE", x.section(22, 3), 80);
    due.is("beside the own FARM 0", x.section(1, 3), 70);
    due.is("no fine", x.count(5), 200 + 10 + 10 + 5);
  }

  /** PERSON 1 has so many COINS, and STOCK on SQUAT 12, beside the FARM of 0; the fine is so much: what is paid. */
  private static void fine(int coins, int stock, int fine, int paid) {
    SettlerColony x = Colony.owners(2, 2100);
    x.squat(1, 12);
    x.stock(1, 12, stock);
    Colony.enact(x, "price=1000;fine=" + fine + ";");
    for (int k = 0; k < 3; k++) {
      Colony.enact(x, "run=" + Math.min(1000, x.person(1, 1) - coins) + ";");
      x.run(1, 30);
    }
    String what = stock + " STOCK, a fine of " + fine + ", " + coins + " COINS";
    due.is(what, x.person(1, 1), coins);
    int other = x.person(0, 1);
    int treasury = x.count(5);
    x.week(1);
    due.is(what + ": who pays", coins - x.person(1, 1), paid);
    due.is(what + ": who gets", x.person(0, 1) - other, paid);
    due.is(what + ": STOCK", x.section(12, 3), stock);
    due.is(what + ": TREASURY", x.count(5), treasury);
  }

  private static void fines() {
    due.term(6, "it is that one's trouble: the PASTURE's PERSON pays fine for each (as far as the COINS go), and has the STOCK still");
    fine(100, 8, 1, 1);
    fine(100, 7, 1, 0);
    fine(100, 15, 7, 7);
    fine(100, 16, 7, 14);
    fine(100, 800, 1, 100);
    fine(99, 800, 1, 99);
    fine(101, 800, 1, 100);
    fine(0, 800, 1, 0);
    fine(1, 800, 1000, 1);
    fine(7, 80, 0, 0);
    due.term(6, "goes to the least NEIGHBOUR that is a FARM of another PERSON");
    int[] beside = {5, 16, 18, 29};
    for (int own = 0; own < 4; own++) {
      SettlerColony x = Colony.owners(3, 500);
      for (int k = 0; k < 4; k++) x.buy(k <= own ? 0 : 1 + k % 2, beside[k]);
      x.squat(0, 17);
      x.stock(0, 17, 16);
      int[] coins = {x.person(0, 1), x.person(1, 1), x.person(2, 1)};
      x.week(1);
      int to = own == 3 ? 0 : 1 + (own + 1) % 2;
      for (int p = 1; p < 3; p++) due.is("fine to " + p + " behind " + own, x.person(p, 1) - coins[p], p == to ? 2 : 0);
      due.is("paid behind " + own, coins[0] - x.person(0, 1), own == 3 ? 0 : 2);
      due.is("STOCK behind " + own, x.section(17, 3), own == 3 ? 14 : 16);
    }
    SettlerColony y = Colony.owners(2, 500);
    y.run(1, 5);
    y.squat(1, 16);
    y.squat(0, 17);
    y.stock(0, 17, 8);
    y.week(1);
    due.is("a PASTURE of another one is no FARM", y.section(17, 3), 7);
  }

  private static void finesBySections() {
    due.term(6, "each PASTURE (by SECTIONS)");
    SettlerColony x = Colony.owners(3, 107);
    x.buy(1, 28);
    x.buy(2, 32);
    x.squat(0, 33);
    x.stock(0, 33, 16);
    x.squat(0, 29);
    x.stock(0, 29, 16);
    due.is("three COINS", x.person(0, 1), 3);
    int first = x.person(1, 1);
    int second = x.person(2, 1);
    x.week(1);
    due.is("two to the first", x.person(1, 1) - first, 2);
    due.is("one to the second", x.person(2, 1) - second, 1);
    due.is("none is left", x.person(0, 1), 0);
    SettlerColony y = Colony.owners(2, 80);
    y.squat(0, 13);
    y.squat(1, 12);
    y.stock(0, 13, 8);
    y.stock(1, 12, 16);
    y.squat(1, 2);
    int[] coins = {y.person(0, 1), y.person(1, 1)};
    y.week(1);
    due.is("gets 2 and pays 1", y.person(0, 1) - coins[0], 1);
    due.is("pays 2 and gets 1", y.person(1, 1) - coins[1], -1);
  }

  private static void strayAheadOfTheEnd() {
    due.term(6, "(g) A RUN that ENDS in this WEEK is a LOT (its STOCK is gone).");
    SettlerColony x = Colony.owners(2, 500);
    x.run(1, 12);
    x.stock(1, 12, 8);
    x.week(52);
    due.is("ENDS now", x.section(12, 2), x.count(0));
    int coins = x.person(0, 1);
    int stock = x.section(12, 3);
    x.week(1);
    due.is("it strays once more", x.person(0, 1) - coins, stock / 8);
    due.is("and is a LOT", x.section(12, 0), 1);
  }

  private static void ends() {
    SettlerColony x = Colony.settled(1, 29, 4);
    x.run(0, 1);
    x.fence(0, 1);
    x.stock(0, 1, 4);
    x.squat(0, 2);
    x.week(52);
    int[] run = {4, 0, 87, 5, 1, -1, 0};
    for (int what = 0; what < 7; what++) due.is("in WEEK 87, " + what, x.section(1, what), run[what]);
    x.week(1);
    int[] lot = {1, -1, -1, -1, -1, -1, 0};
    for (int what = 0; what < 7; what++) due.is("behind WEEK 87, " + what, x.section(1, what), lot[what]);
    due.is("a SQUAT doesn't end", x.section(2, 0), 6);
    x.squat(0, 1);
    due.is("its STOCK is gone", x.section(1, 3), 0);
    due.is("its FENCE, too", x.section(1, 4), 0);
    SettlerColony y = Colony.settled(1, 29, 4);
    Colony.go(y, 915);
    due.is("a RUN in WEEK 950", y.run(0, 1), 5);
    due.is("that would end at 1,002", y.section(1, 2), 1002);
    y.week(50);
    due.is("is one in WEEK 1,000", y.section(1, 0), 4);
  }

  // ---- (h) ----

  /** By how much STORE and COINS grow in the last WEEK of a YEAR of that RAIN in all, of a FARM of SOIL 9. */
  private static void band(int all, int band) {
    SettlerColony x = new SettlerColony();
    x.land(0, 9, false);
    int each = Math.min(500, all / 52);
    x.rains(0, each, 51);
    x.rain(0, Math.min(500, all - 51 * each));
    x.party(9);
    x.queue(0, 0);
    x.people(1, 0, 50);
    x.order(0);
    x.ship(0, 0, 0, 0);
    x.week(51);
    int store = x.count(4);
    int coins = x.person(0, 1);
    x.week(1);
    due.is("RAIN of " + all + ": food", x.count(4) - store + 1, 9 * band);
    due.is("RAIN of " + all + ": COINS", x.person(0, 1) - coins, 9 * band / 2);
  }

  private static void bands() {
    due.term(6, "BAND by the ZONE's RAIN of the YEAR: 0 below 300, 1 below 600, 2 below 900, 3 below 1,500, else 1");
    int[] edges = {0, 299, 300, 599, 600, 899, 900, 1499, 1500, 1501, 26000};
    int[] bands = {0, 0, 1, 1, 2, 2, 3, 3, 1, 1, 1};
    for (int k = 0; k < edges.length; k++) band(edges[k], bands[k]);
  }

  private static void rainIsOfAYear() {
    due.term(6, "The YEAR's RAIN of all ZONES is 0 again.");
    SettlerColony x = new SettlerColony();
    x.land(0, 9, false);
    x.rains(0, 20, 104);
    x.rains(0, 5, 51);
    x.rain(0, 44);
    x.rains(0, 5, 51);
    x.rain(0, 45);
    x.rains(1, 500, 500);
    x.party(9);
    x.queue(0, 0);
    x.people(1, 0, 50);
    x.order(0);
    x.ship(0, 0, 0, 0);
    x.week(51);
    int[] food = {27, 27, 0, 9};
    int[] promises = {90 + 104, 90 + 104, 90 + 79, 90 + 66};
    for (int year = 0; year < 4; year++) {
      int store = x.count(4);
      x.week(1);
      due.is("food of YEAR " + year, x.count(4) - store + 1, food[year]);
      due.is("PROMISE behind YEAR " + year, x.promise(0), promises[year]);
      due.is("YEARS", x.seen(0), year + 1);
      x.week(51);
    }
  }

  private static void yields(int hands, int soil) {
    SettlerColony x = new SettlerColony();
    x.rains(0, 20, 60);
    x.land(0, soil, false);
    x.party(9);
    x.queue(0, 0);
    x.people(1, 0, 1000);
    x.people(hands, 0, 20);
    for (int p = 0; p <= hands; p++) x.order(p);
    x.ship(0, 0, 0, 0);
    x.week(51);
    int store = x.count(4);
    int coins = x.person(0, 1);
    int hired = Math.min(4, hands);
    due.is("hired", x.person(0, 4), hired);
    x.week(1);
    int food = soil * 3 * (1 + hired);
    due.is(hands + " PEOPLE more, SOIL " + soil + ": food", x.count(4) - store + 1 + hands, food);
    due.is(hands + " PEOPLE more, SOIL " + soil + ": COINS", x.person(0, 1) - coins + 2 * hired, food / 2);
  }

  private static void yields() {
    due.term(6, "Each FARM, by SECTIONS, whose PERSON is OWN yields: SOIL times BAND times (1 and how many that one hired)");
    for (int hands = 0; hands < 6; hands++) yields(hands, 9);
    yields(0, 0);
    yields(0, 1);
    yields(2, 1);
    yields(4, 5);
    due.term(6, "that comes to the STORE, and half of it, cut, in COINS to the PERSON.");
    SettlerColony x = Colony.settled(2, 29, 8);
    x.buy(0, 0);
    x.choose(0, 1);
    Colony.enact(x, "price=1000;wage=0;");
    x.week(16);
    int store = x.count(4);
    int coins = x.person(0, 1);
    x.week(1);
    due.is("two FARMS of 5 by 1 by 2", x.count(4) - store + 2, 20);
    due.is("half of each", x.person(0, 1) - coins, 10);
    SettlerColony y = Colony.settled(1, 29, 8);
    y.buy(0, 0);
    y.choose(0, 1);
    y.week(16);
    coins = y.person(0, 1);
    y.week(1);
    due.is("half of each, cut each", y.person(0, 1) - coins, 4);
  }

  private static void breed(int stock, int then) {
    SettlerColony x = Colony.owners(1, 2100);
    x.squat(0, 20);
    x.fence(0, 20);
    x.stock(0, 20, stock);
    x.week(15);
    due.is("STOCK of " + stock + " ahead", x.section(20, 3), stock);
    x.week(1);
    due.is("STOCK of " + stock + " a fourth more", x.section(20, 3), then);
  }

  private static void breeds() {
    due.term(6, "STOCK of each PASTURE is a fourth more, cut (1,000 at most).");
    breed(0, 0);
    breed(3, 3);
    breed(4, 5);
    breed(7, 8);
    breed(8, 10);
    breed(799, 998);
    breed(800, 1000);
    breed(801, 1000);
    breed(999, 1000);
    breed(1000, 1000);
    SettlerColony x = Colony.owners(1, 2100);
    x.week(15);
    x.run(0, 20);
    x.stock(0, 20, 8);
    x.squat(0, 22);
    x.stock(0, 22, 7);
    x.week(1);
    due.is("strays first, then a fourth of 7", x.section(20, 3), 8);
    due.is("a fourth of 7", x.section(22, 3), 8);
    due.term(6, "STOCK of each PASTURE");
    for (int section : new int[] {0, 95}) {
      SettlerColony y = new SettlerColony();
      y.party(9);
      y.queue(0, section);
      y.people(1, 0, 49);
      y.order(0);
      y.ship(0, 0, 0, 0);
      y.week(40);
      y.run(0, section);
      y.stock(0, section, 4);
      y.week(12);
      due.is("STOCK of " + section, y.section(section, 3), 5);
      y.week(40);
      due.is("a RUN still", y.section(section, 0), 4);
      y.week(1);
      due.is("it ends", y.section(section, 0), 1);
    }
  }

  private static void lastWeekOnly() {
    due.term(6, "(h) In the last WEEK of a YEAR");
    SettlerColony x = Colony.settled(1, 29, 8);
    x.buy(0, 0);
    x.squat(0, 1);
    x.stock(0, 1, 4);
    for (int week = 35; week < 160; week++) {
      int store = x.count(4);
      int stock = x.section(1, 3);
      int seen = x.seen(0);
      x.week(1);
      boolean last = week == 51 || week == 103 || week == 155;
      due.is("food of WEEK " + week, x.count(4) - store + 1, last ? 5 : 0);
      due.is("STOCK of WEEK " + week, x.section(1, 3) > stock, last);
      due.is("SEEN in WEEK " + week, x.seen(0) - seen, last ? 1 : 0);
    }
  }
}
