/** Promises 10, 11 and 16 to 25: people, town acres, sales, orders, pastures. */
public final class PeopleTest {
  private static final Due due = new Due("PeopleTest");

  public static void main(String[] args) {
    people();
    person();
    ask();
    draw();
    buy();
    order();
    choose();
    run();
    squat();
    stock();
    fence();
    due.end();
  }

  private static void people() {
    due.promise(10);
    SettlerColony x = new SettlerColony();
    due.is("none", x.people(0, 0, 0), 0);
    due.is("first", x.people(2, 3, 1000000), 0);
    due.is("next", x.people(97, 0, 0), 2);
    due.is("too many", x.people(2, 0, 0), -1);
    due.is("far too many", x.people(Integer.MAX_VALUE, 0, 0), -1);
    due.is("below 0", x.people(-1, 0, 0), -2);
    due.is("far below 0", x.people(Integer.MIN_VALUE, 0, 0), -2);
    due.is("the last", x.people(1, 1, 7), 99);
    due.is("none more", x.people(0, 1, 7), 100);
    due.is("all", x.count(1), 100);
    due.argument("trade -1", () -> x.people(1, -1, 0));
    due.argument("trade 4", () -> x.people(1, 4, 0));
    due.argument("coins -1", () -> x.people(1, 0, -1));
    due.argument("coins 1000001", () -> x.people(1, 0, 1000001));
    due.argument("before too many", () -> x.people(200, 0, 1000001));
    due.is("coins", x.person(1, 1), 1000000);
    due.is("trade", x.person(1, 0), 3);
  }

  private static void facts(SettlerColony x, int person, int... want) {
    for (int what = 0; what < want.length; what++) {
      due.is("person(" + person + ", " + what + ")", x.person(person, what), want[what]);
    }
  }

  private static void person() {
    due.promise(11);
    SettlerColony x = new SettlerColony();
    x.people(1, 2, 60);
    facts(x, 0, 2, 60, 0, -1, 0, 0, -1, 0, -1);
    x.order(0);
    facts(x, 0, 2, 40, 0, -1, 0, 0, 0, 0, -1);
    x.ship(0, 2, 0, 0);
    facts(x, 0, 2, 40, 1, -1, 0, 0, 0, 0, 34);
    facts(x, 1, 1, 5, 1, -1, 0, 0, -1, 0, 34);
    x.party(9);
    x.queue(0, 0);
    x.week(35);
    facts(x, 0, 2, 20, 4, -1, 2, 1, 0, 0, 34);
    facts(x, 1, 1, 5, 3, 0, 0, 0, -1, 0, 34);
    due.index("3", () -> x.person(3, 0));
    due.index("-1", () -> x.person(-1, 9));
    due.argument("9", () -> x.person(0, 9));
    due.argument("-1", () -> x.person(0, -1));
  }

  private static void ask() {
    due.promise(16);
    SettlerColony x = Colony.settled(14, 0, 0);
    x.people(1, 0, 0);
    due.is("at home", x.ask(14), -1);
    due.is("first", x.ask(3), 1);
    due.is("asks", x.ask(3), -2);
    due.is("second", x.ask(1), 2);
    x.draw(0);
    due.is("has one", x.ask(3), -2);
    due.is("asking begins anew", x.ask(0), 1);
    x.ask(2);
    for (int p = 4; p < 12; p++) due.is("more", x.ask(p), p - 1);
    due.is("no more", x.ask(12), -3);
    due.is("asks, before no more", x.ask(4), -2);
    due.is("at home, before no more", x.ask(14), -1);
    due.index("15", () -> x.ask(15));
    due.index("-1", () -> x.ask(-1));
  }

  private static void draw() {
    due.promise(17);
    SettlerColony x = Colony.settled(14, 0, 0);
    due.is("nobody asks", x.draw(0), 0);
    due.argument("one order of nobody", () -> x.draw(1));
    x.ask(5);
    x.ask(3);
    x.ask(4);
    due.argument("-1", () -> x.draw(-1));
    due.argument("6", () -> x.draw(6));
    due.is("three", x.draw(3), 3);
    due.promise(18);
    due.is("the second of three", x.acre(0), 3);
    due.is("then the second of two", x.acre(1), 4);
    due.is("then the last", x.acre(2), 5);
    due.is("not drawn", x.acre(3), -1);
    due.is("drawn", x.count(14), 3);
    due.index("12", () -> x.acre(12));
    due.index("-1", () -> x.acre(-1));
    due.promise(17);
    x.ask(0);
    x.ask(1);
    due.is("two", x.draw(1), 2);
    due.is("next acres", x.acre(3), 1);
    due.is("next acres", x.acre(4), 0);
    SettlerColony y = Colony.settled(12, 0, 0);
    for (int p = 0; p < 12; p++) y.ask(p);
    due.argument("12 numbers", () -> y.draw(479001600));
    due.is("the last order", y.draw(479001599), 12);
    for (int k = 0; k < 12; k++) due.is("backwards", y.acre(k), 11 - k);
    due.is("all drawn", y.draw(0), 0);
  }

  private static void buy() {
    due.promise(19);
    SettlerColony x = Colony.settled(3, 29, 3);
    x.people(1, 0, 500);
    due.is("at home", x.buy(3, 50), -1);
    due.is("wild", x.buy(0, 50), -2);
    due.is("bought", x.buy(0, 1), 20);
    due.is("no lot", x.buy(1, 1), -2);
    due.is("coins", x.person(0, 1), 9);
    due.is("own", x.person(0, 2), 4);
    due.is("treasury", x.count(5), 210);
    due.is("farms", x.count(3), 1);
    due.is("too few", x.buy(0, 2), -3);
    due.is("left as it was", x.section(2, 0), 1);
    due.is("all coins", x.run(1, 0) + x.run(1, 0), 10);
    due.is("19", x.person(1, 1), 19);
    due.is("one too few", x.buy(1, 2), -3);
    due.index("4", () -> x.buy(4, 0));
    due.index("-1", () -> x.buy(-1, 0));
    due.index("96", () -> x.buy(0, 96));
    due.index("section -1", () -> x.buy(0, -1));
    SettlerColony y = Colony.settled(2, 29, 3);
    y.buy(0, 0);
    Colony.enact(y, "price=soil*3+2;share=33;");
    due.is("price with its soil", y.buy(1, 1), 17);
    due.is("share cut", y.count(5), 200 + 10 + 12);
    y.week(1);
    due.is("passages by sales", y.as(35, 0, 5), 10 + 5);
    SettlerColony z = Colony.settled(2, 29, 3);
    z.buy(0, 0);
    Colony.enact(z, "share=soil*10;");
    due.is("bought", z.buy(1, 1), 20);
    due.is("share without soil", z.count(5), 210 + 20);
    hiredBuys();
  }

  private static void hiredBuys() {
    SettlerColony x = Colony.settled(2, 29, 3);
    x.buy(0, 0);
    x.week(1);
    due.is("hired", x.person(1, 3), 0);
    due.is("buys", x.buy(1, 1), 20);
    due.is("own", x.person(1, 2), 4);
    due.is("hired no more", x.person(1, 3), -1);
    due.is("has nobody", x.person(0, 4), 0);
  }

  private static void order() {
    due.promise(20);
    SettlerColony x = new SettlerColony();
    x.people(1, 0, 20);
    x.people(1, 0, 19);
    x.people(1, 0, 40);
    due.is("first", x.order(2), 0);
    due.is("has one", x.order(2), -2);
    due.is("just enough", x.order(0), 1);
    due.is("has one, and no coins", x.order(0), -2);
    due.is("too few", x.order(1), -3);
    due.is("passages", x.passages(), 40);
    due.is("treasury", x.count(5), 200);
    due.is("orders", x.count(11), 2);
    x.ship(0, 0, 0, 0);
    due.is("at sea", x.order(0), -1);
    due.is("at home still", x.person(1, 2), 0);
    due.index("3", () -> x.order(3));
    due.index("-1", () -> x.order(-1));
    x.week(35);
    due.is("here", x.order(2), -1);
  }

  private static void choose() {
    due.promise(21);
    SettlerColony x = Colony.settled(3, 9, 6);
    x.people(2, 0, 29);
    x.order(3);
    due.is("no order", x.choose(4, 0), -1);
    due.is("at home", x.choose(3, 0), -2);
    due.is("no lot", x.choose(1, 50), -3);
    due.is("another one's turn", x.choose(1, 0), -4);
    due.is("no lot before the turn", x.choose(2, 60), -3);
    due.is("the first", x.choose(0, 2), 1);
    due.is("again", x.choose(0, 0), -1);
    due.is("order", x.section(2, 0), 5);
    due.is("paid", x.section(2, 5), 20);
    due.is("own", x.person(0, 2), 4);
    due.is("order stays told", x.person(0, 6), 0);
    due.is("third waits", x.choose(2, 0), -4);
    due.is("second", x.choose(1, 0), 1);
    due.is("third", x.choose(2, 1), 1);
    due.index("5", () -> x.choose(5, 0));
    due.index("96", () -> x.choose(0, 96));
    due.index("-1", () -> x.choose(-1, 0));
    SettlerColony y = Colony.settled(2, 9, 6);
    y.week(2);
    due.is("here for three weeks", y.choose(1, 0), -4);
    y.week(1);
    due.is("here for four weeks", y.choose(1, 0), 1);
    SettlerColony z = Colony.settled(3, 29, 6);
    z.buy(0, 5);
    Colony.enact(z, "choice=1;");
    due.is("by the law: one week is enough", z.choose(2, 0), 1);
    SettlerColony soil = Colony.settled(3, 29, 6);
    soil.buy(0, 5);
    Colony.enact(soil, "choice=soil*10;");
    due.is("choice without soil", soil.choose(2, 0), 1);
    SettlerColony late = Colony.settled(1, 9, 6);
    late.people(1, 0, 49);
    late.order(1);
    late.ship(0, 0, 0, 0);
    late.people(1, 0, 49);
    late.order(2);
    late.ship(0, 0, 0, 0);
    late.week(35);
    due.is("one of a lower number came with them", late.choose(2, 0), -4);
    due.is("the one here for long doesn't bar", late.choose(1, 0), 1);
  }

  private static void run() {
    due.promise(22);
    SettlerColony x = Colony.settled(3, 29, 6);
    x.people(1, 0, 29);
    due.is("at home", x.run(3, 0), -1);
    due.is("wild", x.run(0, 50), -2);
    due.is("a run", x.run(0, 0), 5);
    due.is("treasury", x.count(5), 205);
    due.is("coins", x.person(0, 1), 24);
    due.is("another one's run", x.run(1, 0), -2);
    x.stock(0, 0, 3);
    x.squat(1, 1);
    x.stock(1, 1, 2);
    x.fence(1, 1);
    due.is("another one's squat", x.run(0, 1), -2);
    x.week(2);
    due.is("again", x.run(0, 0), 5);
    due.is("52 weeks from now", x.section(0, 2), 89);
    due.is("stock stays", x.section(0, 3), 3);
    due.is("out of a squat", x.run(1, 1), 5);
    due.is("run", x.section(1, 0), 4);
    due.is("stock of the squat stays", x.section(1, 3), 2);
    due.is("fence of the squat stays", x.section(1, 4), 1);
    x.buy(2, 2);
    due.is("a farm", x.run(2, 2), -2);
    x.run(2, 3);
    due.is("too few", x.run(2, 3), -3);
    due.index("4", () -> x.run(4, 0));
    due.index("96", () -> x.run(0, 96));
    SettlerColony y = Colony.settled(1, 29, 6);
    y.buy(0, 0);
    Colony.enact(y, "run=soil;");
    due.is("without soil", y.run(0, 1), 0);
    due.is("a run for nothing", y.section(1, 0), 4);
  }

  private static void squat() {
    due.promise(23);
    SettlerColony x = Colony.settled(2, 29, 6);
    x.people(1, 0, 29);
    due.is("at home", x.squat(2, 0), -1);
    due.is("wild", x.squat(0, 50), -2);
    due.is("a squat", x.squat(0, 0), 1);
    due.is("no lot", x.squat(0, 0), -2);
    due.is("no coins", x.person(0, 1), 29);
    due.is("free still", x.person(0, 2), 2);
    x.buy(0, 1);
    Colony.enact(x, "squat=year;");
    due.is("not allowed", x.squat(1, 2), -3);
    due.is("no lot first", x.squat(1, 0), -2);
    x.week(17);
    due.is("from the first year on", x.squat(1, 3), 1);
    due.index("3", () -> x.squat(3, 0));
    due.index("-1", () -> x.squat(0, -1));
  }

  private static void stock() {
    due.promise(24);
    SettlerColony x = Colony.settled(2, 29, 6);
    x.squat(0, 0);
    x.buy(0, 1);
    due.is("none", x.stock(0, 0, 0), 0);
    due.is("four", x.stock(0, 0, 4), 4);
    due.is("two coins each", x.person(0, 1), 1);
    due.is("too few", x.stock(0, 0, 1), -2);
    due.is("another one's", x.stock(1, 0, 1), -1);
    due.is("a farm", x.stock(0, 1, 1), -1);
    due.is("a lot", x.stock(0, 2, 1), -1);
    due.argument("-1", () -> x.stock(0, 0, -1));
    due.argument("1001", () -> x.stock(0, 0, 1001));
    due.index("2", () -> x.stock(2, 0, 1001));
    due.index("96", () -> x.stock(0, 96, 0));
    SettlerColony rich = new SettlerColony();
    rich.people(1, 0, 10000);
    rich.order(0);
    rich.ship(0, 0, 0, 0);
    rich.week(35);
    rich.party(9);
    rich.queue(0, 0);
    rich.queue(0, 1);
    rich.week(1);
    rich.week(1);
    due.is("bought the first", rich.section(0, 0), 3);
    rich.squat(0, 1);
    due.is("a thousand", rich.stock(0, 1, 1000), 1000);
    due.is("too many", rich.stock(0, 1, 1), -3);
    due.is("none more", rich.stock(0, 1, 0), 1000);
    due.is("paid", rich.person(0, 1), 10000 - 20 - 20 - 2000);
    due.is("is spent", rich.count(5), 210);
  }

  private static void fence() {
    due.promise(25);
    SettlerColony x = Colony.settled(2, 29, 6);
    x.squat(0, 0);
    x.buy(1, 1);
    due.is("another one's", x.fence(1, 0), -1);
    due.is("a farm", x.fence(1, 1), -1);
    due.is("fifteen", x.fence(0, 0), 1);
    due.is("coins", x.person(0, 1), 14);
    due.is("has one", x.fence(0, 0), -2);
    x.squat(0, 2);
    due.is("too few", x.fence(0, 2), -3);
    due.index("2", () -> x.fence(2, 0));
    due.index("96", () -> x.fence(0, 96));
    SettlerColony y = new SettlerColony();
    y.party(9);
    y.queue(0, 0);
    y.people(1, 2, 25);
    y.order(0);
    y.ship(0, 0, 0, 0);
    y.week(35);
    y.squat(0, 0);
    due.is("a smith", y.fence(0, 0), 1);
    due.is("five", y.person(0, 1), 0);
  }
}
