/** Promises 35 to 43 and 52: home, ships, bills, weeks, what was known. */
public final class HomeTest {
  private static final Due due = new Due("HomeTest");

  public static void main(String[] args) {
    quoted();
    ship();
    passages();
    fund();
    bills();
    pass();
    week();
    people();
    wages();
    hands();
    hunger();
    strays();
    fines();
    runs();
    harvest();
    bands();
    breed();
    as();
    count();
    due.end();
  }

  private static void quoted() {
    due.promise(35);
    SettlerColony x = new SettlerColony();
    due.is("nothing is known", x.quoted(), 20);
    x.week(40);
    due.is("no law", x.quoted(), 20);
    SettlerColony y = Colony.settled(3, 29, 6);
    y.buy(0, 0);
    Colony.enact(y, "price=week+1000*year-1000*year+sold*100+people*200+soil;");
    y.buy(1, 1);
    due.is("not known yet", y.quoted(), 20);
    y.week(33);
    due.is("not known still", y.quoted(), 20);
    y.week(1);
    due.is("known", y.quoted(), 35 + 100 + 600);
    y.week(1);
    due.is("a week later", y.quoted(), 36 + 100 + 600);
    y.people(1, 0, 1000);
    due.is("an order at that price", y.order(3), 3);
    due.is("paid", y.person(3, 1), 264);
    y.assent(0, false);
    y.week(34);
    due.is("undone here", y.force(0), 2);
    y.week(1);
    due.is("undone here", y.force(0), 4);
    y.week(32);
    due.is("not known at home", y.quoted() > 20, true);
    y.week(1);
    due.is("known at home", y.quoted(), 20);
  }

  private static void ship() {
    due.promise(36);
    SettlerColony x = new SettlerColony();
    x.people(2, 0, 100);
    x.order(0);
    due.is("below 0", x.ship(0, 0, 0, -1), -1);
    due.is("below 0", x.ship(-1, 200, 0, 0), -1);
    due.is("hands below 0", x.ship(0, -1, 0, 0), -1);
    due.is("smiths below 0", x.ship(0, 0, -1, 0), -1);
    due.is("too many", x.ship(40, 40, 18, 1), -3);
    due.is("far too many", x.ship(Integer.MAX_VALUE, Integer.MAX_VALUE, Integer.MAX_VALUE, Integer.MAX_VALUE), -3);
    due.is("too little", x.ship(1, 1, 1, 0), -4);
    due.is("just as much", x.ship(0, 1, 0, 1), 0);
    due.is("by trades", x.person(2, 0), 1);
    due.is("by trades", x.person(3, 0), 3);
    due.is("five coins", x.person(3, 1), 5);
    due.is("one with an order sails", x.person(0, 2), 1);
    due.is("one without stays", x.person(1, 2), 0);
    due.is("nothing is left", x.ship(1, 0, 0, 0), -4);
    for (int k = 1; k < 20; k++) due.is("empty ships", x.ship(0, 0, 0, 0), k);
    due.is("20 ships", x.ship(0, 0, 0, 0), -2);
    due.is("20 ships before too many", x.ship(200, 0, 0, 0), -2);
    due.is("below 0 before 20 ships", x.ship(-1, 0, 0, 0), -1);
    x.week(34);
    due.is("not landed", x.count(2), 0);
    x.week(1);
    due.is("landed", x.count(2), 3);
    SettlerColony y = new SettlerColony();
    y.people(50, 0, 100);
    for (int p = 0; p < 50; p++) y.order(p);
    due.is("all of four trades", y.ship(2, 3, 4, 5), 0);
    int[] trades = {0, 0, 1, 1, 1, 2, 2, 2, 2, 3, 3, 3, 3, 3};
    for (int k = 0; k < trades.length; k++) due.is("trade", y.person(50 + k, 0), trades[k]);
    due.is("just 100", y.ship(36, 0, 0, 0), 1);
    due.is("one more", y.ship(1, 0, 0, 0), -3);
    due.is("none more", y.ship(0, 0, 0, 0), 2);
  }

  private static void passages() {
    due.promise(37);
    SettlerColony x = new SettlerColony();
    due.is("nothing", x.passages(), 0);
    x.people(3, 0, 49);
    for (int p = 0; p < 3; p++) x.order(p);
    due.is("orders at once", x.passages(), 60);
    x.ship(1, 0, 0, 0);
    due.is("less the ship", x.passages(), 50);
    x.party(9);
    x.queue(0, 0);
    x.queue(0, 1);
    x.week(35);
    x.buy(0, 0);
    x.week(33);
    due.is("sales unknown", x.passages(), 50);
    x.week(1);
    due.is("sales up to week 35", x.passages(), 60);
  }

  private static void fund() {
    due.promise(38);
    SettlerColony x = new SettlerColony();
    due.is("none", x.fund(0), 0);
    due.is("some", x.fund(100000), 100000);
    due.is("more", x.fund(7), 100007);
    due.argument("-1", () -> x.fund(-1));
    due.argument("100001", () -> x.fund(100001));
    due.is("nothing done", x.count(12), 100007);
  }

  private static void bills() {
    due.promise(39);
    SettlerColony x = new SettlerColony();
    due.argument("0", () -> x.bill(0));
    due.argument("10001", () -> x.bill(10001));
    due.is("first", x.bill(100), 0);
    due.is("second", x.bill(57), 1);
    due.is("treasury", x.count(5), 357);
    x.pass(1);
    x.pass(1);
    x.fund(120);
    due.promise(41);
    x.week(34);
    due.is("on its way", x.billed(0), 0);
    x.week(1);
    due.is("paid", x.billed(0), 1);
    due.is("on its way back", x.billed(1), 2);
    due.is("fund", x.count(12), 20);
    due.is("treasury", x.count(5), 357);
    x.week(33);
    due.is("on its way back still", x.billed(1), 2);
    x.week(1);
    due.is("back", x.billed(1), 3);
    due.is("sum, 11 and 2", x.count(5), 357 - 57 - 11 - 2);
    x.week(70);
    due.is("once", x.count(5), 287);
    due.is("paid", x.billed(0), 1);
    due.index("2", () -> x.billed(2));
    due.index("-1", () -> x.billed(-1));
    due.promise(39);
    for (int k = 2; k < 20; k++) due.is("more", x.bill(10000), k);
    due.is("20", x.bill(1), -1);
    due.argument("20 and 0", () -> x.bill(0));
    due.is("treasury", x.count(5), 287 + 180000);
    due.promise(41);
    x.fund(10000);
    x.fund(9980);
    x.week(35);
    due.is("first paid", x.billed(2), 1);
    due.is("second paid", x.billed(3), 1);
    due.is("third not", x.billed(4), 2);
    due.is("just as much was there", x.count(12), 0);
    x.week(34);
    due.is("below 0", x.count(5), 287 + 180000 - 16 * 12000);
  }

  private static void pass() {
    due.promise(40);
    SettlerColony x = new SettlerColony();
    x.bill(10);
    x.bill(10);
    for (int k = 1; k <= 5; k++) due.is("hands", x.pass(0), k);
    due.is("5", x.pass(0), -1);
    due.is("other", x.pass(1), 1);
    x.week(34);
    due.is("not seen yet", x.pass(1), 2);
    x.week(1);
    due.is("seen", x.pass(1), -2);
    due.is("5 first", x.pass(0), -1);
    due.index("2", () -> x.pass(2));
    due.index("-1", () -> x.pass(-1));
  }

  private static void week() {
    due.promise(42);
    SettlerColony x = new SettlerColony();
    due.is("none", x.week(0), 0);
    due.argument("-1", () -> x.week(-1));
    due.argument("105", () -> x.week(105));
    for (int k = 1; k <= 9; k++) due.is("weeks", x.week(104), 104 * k);
    due.state("1001", () -> x.week(65));
    due.argument("105 first", () -> x.week(105));
    due.is("1000", x.week(64), 1000);
    due.state("one more", () -> x.week(1));
    due.is("none more", x.week(0), 1000);
    due.is("week 1000 is quoted", x.quoted(), 20);
    due.is("the last row", x.as(999, 0, 2), 500);
  }

  /** Who buys: by number, the LOT of the greatest PROMISE, if price and 10 are there. */
  private static void people() {
    due.promise(42);
    SettlerColony x = new SettlerColony();
    x.land(1, 7, false);
    x.land(2, 9, false);
    x.land(3, 9, false);
    x.party(9);
    for (int s = 0; s < 5; s++) x.queue(0, s);
    x.people(1, 0, 49);
    x.people(2, 1, 50);
    x.people(3, 3, 90);
    for (int p = 0; p < 6; p++) x.order(p);
    x.ship(0, 0, 0, 0);
    x.week(35);
    due.is("29 are too few", x.person(0, 5), 0);
    due.is("30 are enough", x.section(2, 1), 1);
    due.is("then the least section", x.section(3, 1), 2);
    due.is("then the next promise", x.section(1, 1), 3);
    due.is("all trades", x.section(0, 1), 4);
    due.is("one each", x.person(3, 5), 1);
    due.is("the last", x.section(4, 1), 5);
    due.is("who bought nothing and came first is hired later", x.person(0, 2), 2);
    x.week(1);
    due.is("by the one of the least number", x.person(0, 3), 1);
    due.is("coins", x.person(1, 1), 10);
    due.is("price to treasury and passages", x.count(5), 200 + 50);
  }

  private static void wages() {
    SettlerColony x = Colony.settled(3, 24, 6);
    x.buy(0, 0);
    x.week(1);
    due.is("hired both", x.person(0, 4), 2);
    due.is("no wage yet", x.person(1, 1), 24);
    x.week(1);
    due.is("first wage", x.person(1, 1), 26);
    due.is("second wage", x.person(2, 1), 26);
    due.is("paid", x.person(0, 1), 0);
    x.week(1);
    due.is("none to pay", x.person(1, 2), 2);
    due.is("hired by nobody", x.person(1, 3), -1);
    due.is("hired nobody", x.person(0, 4), 0);
    due.is("coins stay", x.person(2, 1), 26);
    x.buy(1, 1);
    x.week(1);
    due.is("hired by the one who has coins", x.person(2, 3), 1);
    x.week(2);
    due.is("paid twice, 30 are enough to buy", x.person(2, 1), 10);
    due.is("own", x.person(2, 2), 4);
    SettlerColony y = Colony.settled(2, 26, 6);
    y.buy(0, 0);
    Colony.enact(y, "wage=4;");
    y.week(2);
    due.is("buys by a wage in the same week", y.person(1, 2), 4);
    due.is("coins", y.person(1, 1), 10);
    due.is("hired no more", y.person(0, 4), 0);
    SettlerColony z = Colony.settled(2, 20, 6);
    z.buy(0, 0);
    Colony.enact(z, "wage=0;");
    z.week(3);
    due.is("for nothing", z.person(1, 3), 0);
  }

  private static void hands() {
    SettlerColony x = Colony.settled(12, 22, 6);
    Colony.law(x, "");
    x.buy(5, 0);
    x.buy(7, 1);
    Colony.law(x, "wage=0;");
    x.vote(1, 5, true);
    x.close(1);
    x.week(1);
    int[] boss = {5, 7, 5, 7, 5, -1, 7, -1, 5, 7, -1, -1};
    for (int p = 0; p < 12; p++) due.is("boss of " + p, x.person(p, 3), boss[p]);
    due.is("four", x.person(5, 4), 4);
    due.is("four", x.person(7, 4), 4);
    x.buy(10, 2);
    x.week(1);
    due.is("the one left", x.person(11, 3), 10);
  }

  private static void hunger() {
    SettlerColony x = Colony.settled(60, 0, 0);
    due.is("eaten", x.count(4), 440);
    x.week(7);
    due.is("eaten", x.count(4), 20);
    x.week(1);
    due.is("nothing left", x.count(4), 0);
    due.is("hungry", x.count(6), 40);
    due.is("the first ate", x.person(19, 7), 0);
    due.is("the next did not", x.person(20, 7), 1);
    x.week(2);
    due.is("once more", x.person(20, 7), 3);
    due.is("all", x.count(6), 160);
  }

  private static void strays() {
    SettlerColony x = Colony.owners(3, 2000);
    x.squat(0, 14);
    x.stock(0, 14, 7);
    x.squat(1, 16);
    x.stock(1, 16, 17);
    x.squat(2, 18);
    x.stock(2, 18, 80);
    x.fence(2, 18);
    x.week(1);
    due.is("seven stay", x.section(14, 3), 7);
    due.is("an eighth is lost", x.section(16, 3), 15);
    due.is("a fence", x.section(18, 3), 80);
    x.week(1);
    due.is("an eighth again", x.section(16, 3), 14);
  }

  private static void fines() {
    SettlerColony x = Colony.owners(3, 2000);
    x.buy(1, 13);
    x.buy(0, 15);
    x.squat(0, 14);
    x.stock(0, 14, 100);
    int[] coins = {x.person(0, 1), x.person(1, 1), x.person(2, 1)};
    x.week(1);
    due.is("pays for twelve", x.person(0, 1), coins[0] - 12);
    due.is("to the least neighbour", x.person(2, 1), coins[2] + 12);
    due.is("not to the next", x.person(1, 1), coins[1]);
    due.is("stock stays", x.section(14, 3), 100);
    SettlerColony y = Colony.owners(3, 2000);
    y.buy(1, 4);
    y.buy(2, 15);
    y.squat(1, 16);
    y.stock(1, 16, 80);
    int own = y.person(1, 1);
    int other = y.person(2, 1);
    Colony.enact(y, "fine=soil+3;");
    y.week(1);
    due.is("own farm is none", y.person(2, 1), other + 30);
    due.is("fine without soil", y.person(1, 1), own - 30);
    Colony.enact(y, "fine=1000;");
    y.week(1);
    due.is("as far as the coins go", y.person(1, 1), 0);
    due.is("all of it", y.person(2, 1), other + 30 + own - 30);
    due.is("stock stays", y.section(16, 3), 80);
    strayToTheFirst();
    strayTo(18, 6, true);
    strayTo(18, 17, true);
    strayTo(18, 19, true);
    strayTo(18, 30, true);
    strayTo(10, 11, true);
    strayTo(24, 12, true);
    strayTo(18, 5, false);
    strayTo(18, 31, false);
    strayTo(11, 12, false);
    strayTo(12, 11, false);
    strayTo(23, 24, false);
    strayTo(24, 23, false);
  }

  private static void strayToTheFirst() {
    SettlerColony x = Colony.owners(2, 2000);
    x.squat(1, 12);
    x.stock(1, 12, 16);
    int coins = x.person(0, 1);
    x.week(1);
    due.is("section 0 is above section 12", x.person(0, 1), coins + 2);
  }

  private static void strayTo(int from, int to, boolean neighbours) {
    SettlerColony x = Colony.owners(2, 2000);
    x.buy(1, to);
    x.squat(0, from);
    x.stock(0, from, 16);
    int coins = x.person(1, 1);
    x.week(1);
    due.is("stock of " + from + " beside " + to, x.section(from, 3), neighbours ? 16 : 14);
    due.is("fine for " + from + " beside " + to, x.person(1, 1) - coins, neighbours ? 2 : 0);
  }

  private static void runs() {
    SettlerColony x = Colony.settled(1, 29, 3);
    x.run(0, 1);
    x.stock(0, 1, 4);
    x.week(52);
    due.is("a run still", x.section(1, 0), 4);
    due.is("ends at", x.section(1, 2), 87);
    x.week(1);
    due.is("a lot", x.section(1, 0), 1);
    due.is("nobody's", x.section(1, 1), -1);
    x.squat(0, 1);
    due.is("the stock is gone", x.section(1, 3), 0);
    due.is("no end", x.section(1, 2), -1);
  }

  private static void harvest() {
    SettlerColony x = new SettlerColony();
    x.rains(0, 20, 52);
    x.rains(1, 12, 52);
    x.land(0, 9, false);
    x.land(3, 7, false);
    x.party(9);
    x.queue(0, 0);
    x.queue(0, 3);
    x.people(2, 0, 50);
    x.people(2, 0, 20);
    for (int p = 0; p < 4; p++) x.order(p);
    x.ship(0, 0, 0, 0);
    x.week(51);
    due.is("two farms", x.count(3), 2);
    int store = x.count(4);
    int[] coins = {x.person(0, 1), x.person(1, 1)};
    int[] hands = {x.person(0, 4), x.person(1, 4)};
    due.is("no hands are paid any more", hands[0] + hands[1], 0);
    x.week(1);
    due.is("9 by 3, 7 by 2, less 4", x.count(4), store + 27 + 14 - 4);
    due.is("half of 27, cut", x.person(0, 1), coins[0] + 13);
    due.is("half of 14", x.person(1, 1), coins[1] + 7);
    x.week(1);
    due.is("hired", x.person(2, 3), 0);
    due.is("hired", x.person(3, 3), 1);
    SettlerColony y = Colony.settled(3, 29, 2);
    y.buy(0, 0);
    Colony.enact(y, "wage=0;");
    y.week(16);
    store = y.count(4);
    y.week(1);
    due.is("two hands: three times as much, less 3", y.count(4), store + 15 - 3);
  }

  private static void bands() {
    int[][] bands = {{299, 0}, {300, 1}, {599, 1}, {600, 2}, {899, 2}, {900, 3}, {1499, 3}, {1500, 1}, {26000, 1}};
    for (int[] band : bands) {
      SettlerColony x = new SettlerColony();
      if (band[0] == 26000) x.rains(0, 500, 52);
      else rainOfYear(x, band[0]);
      x.party(9);
      x.queue(0, 0);
      x.people(1, 0, 50);
      x.order(0);
      x.ship(0, 0, 0, 0);
      x.week(51);
      int store = x.count(4);
      x.week(1);
      due.is("band by " + band[0], x.count(4) - store + 1, 5 * band[1]);
    }
  }

  private static void rainOfYear(SettlerColony x, int all) {
    x.rains(0, all / 52, 51);
    x.rain(0, all - all / 52 * 51);
  }

  private static void breed() {
    SettlerColony x = Colony.owners(2, 6000);
    x.squat(0, 14);
    x.stock(0, 14, 7);
    x.squat(1, 16);
    x.fence(1, 16);
    x.stock(1, 16, 900);
    x.run(0, 18);
    x.fence(0, 18);
    x.stock(0, 18, 103);
    x.week(15);
    due.is("not yet", x.section(16, 3), 900);
    x.week(1);
    due.is("a fourth more, cut", x.section(14, 3), 8);
    due.is("a thousand at most", x.section(16, 3), 1000);
    due.is("a run, too", x.section(18, 3), 128);
  }

  private static void as() {
    due.promise(43);
    int unknown = -2000000000;
    SettlerColony x = Colony.settled(3, 29, 6);
    x.buy(0, 0);
    x.bill(50);
    x.week(1);
    int[] want = {3, 1, 500 - 3 - 3, 200 + 10 + 50, 0, 10};
    for (int what = 0; what < 6; what++) {
      due.is("here " + what, x.as(35, 0, what), want[what]);
      due.is("not there " + what, x.as(35, 1, what), unknown);
    }
    due.is("the week before", x.as(34, 0, 1), 0);
    due.is("this week", x.as(36, 0, 0), unknown);
    due.is("-1", x.as(-1, 0, 0), unknown);
    due.is("far off", x.as(Integer.MAX_VALUE, 0, 0), unknown);
    due.is("far off", x.as(Integer.MIN_VALUE, 1, 0), unknown);
    due.is("home", x.as(2, 1, 2), 500);
    due.is("home", x.as(3, 1, 2), unknown);
    x.week(33);
    for (int what = 0; what < 6; what++) due.is("home " + what, x.as(35, 1, what), want[what]);
    due.is("not the next", x.as(36, 1, 0), unknown);
    due.argument("place 2", () -> x.as(0, 2, 0));
    due.argument("place -1", () -> x.as(0, -1, 0));
    due.argument("what 6", () -> x.as(0, 0, 6));
    due.argument("what -1", () -> x.as(5000, 0, -1));
    due.is("nothing at first", new SettlerColony().as(0, 0, 0), unknown);
  }

  private static void count() {
    due.promise(52);
    SettlerColony x = Colony.settled(3, 29, 6);
    x.buy(0, 0);
    x.people(4, 0, 0);
    x.law(0);
    x.bill(7);
    x.fund(9);
    x.feed(0, 0, 0, 0, 0);
    x.ask(1);
    x.ask(2);
    due.is("asked is not drawn", x.count(14), 0);
    x.draw(1);
    int[] want = {35, 7, 3, 1, 497, 217, 0, 1, 1, 1, 1, 3, 9, 20, 2};
    for (int what = 0; what < want.length; what++) due.is("count(" + what + ")", x.count(what), want[what]);
    due.is("15", x.count(15), -1);
    due.is("-1", x.count(-1), -1);
    due.is("least", x.count(Integer.MIN_VALUE), -1);
  }
}
