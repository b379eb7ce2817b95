/** Promises 44 to 51: what is tried, what is planned, the image. */
public final class PlanTest {
  private static final Due due = new Due("PlanTest");

  public static void main(String[] args) {
    tried();
    triedAside();
    triedByNoLaw();
    prices();
    worst();
    planned();
    plannedBySteps();
    image();
    tear();
    check();
    due.end();
  }

  private static SettlerColony poor() {
    SettlerColony x = Colony.settled(6, 25, 10);
    x.buy(0, 9);
    return x;
  }

  private static void tried() {
    due.promise(44);
    SettlerColony x = poor();
    SettlerColony same = poor();
    same.week(20);
    int[] counts = {3, 6, 5, 4};
    for (int what = 0; what < 4; what++) {
      due.is("as it is " + what, x.tried(0, -1, 20, what), same.count(counts[what]));
    }
    due.is("hired", x.tried(0, -1, 1, 4), 4);
    due.is("here", x.tried(0, -1, 104, 5), 6);
    due.is("all buy at 15", x.tried(15, -1, 1, 0), 6);
    due.is("nobody at 16", x.tried(16, -1, 1, 0), 1);
    due.is("treasury", x.tried(15, -1, 1, 2), 210 + 5 * 8);
    due.is("share 0", x.tried(15, 0, 1, 2), 210 + 5 * 15);
    due.is("share 100", x.tried(15, 100, 1, 2), 210);
    due.is("hungry", x.tried(1000, -1, 104, 1) > 0, true);
    due.argument("price -1", () -> x.tried(-1, 0, 1, 0));
    due.argument("price 1001", () -> x.tried(1001, 0, 1, 0));
    due.argument("share -2", () -> x.tried(0, -2, 1, 0));
    due.argument("share 101", () -> x.tried(0, 101, 1, 0));
    due.argument("weeks 0", () -> x.tried(0, 0, 0, 0));
    due.argument("weeks 105", () -> x.tried(0, 0, 105, 0));
    due.argument("what -1", () -> x.tried(0, 0, 1, -1));
    due.argument("what 6", () -> x.tried(0, 0, 1, 6));
    for (int k = 0; k < 9; k++) x.week(104);
    due.is("1000 is right", x.tried(0, 0, 29, 5), 6);
    due.state("1001", () -> x.tried(0, 0, 30, 5));
    due.argument("1001 and what", () -> x.tried(0, 0, 30, 6));
  }

  private static void triedAside() {
    SettlerColony x = poor();
    x.rains(0, 25, 60);
    x.bill(100);
    int law = Colony.enact(x, "price=14;undo fall;");
    x.week(34);
    x.assent(law, false);
    SettlerColony y = poor();
    y.rains(0, 25, 60);
    y.bill(100);
    Colony.enact(y, "price=14;undo fall;");
    y.week(34);
    y.assent(law, false);
    x.prices(1, 2, 3);
    x.worst(2, 0, 20, 0);
    x.tried(3, 9, 104, 0);
    x.planned(2, 0);
    x.lot(95);
    for (int what = 0; what < 15; what++) due.is("nothing changes " + what, x.count(what), y.count(what));
    x.week(60);
    y.week(60);
    for (int what = 0; what < 15; what++) due.is("nor later " + what, x.count(what), y.count(what));
    for (int s = 0; s < 96; s++) {
      for (int what = 0; what < 7; what++) due.is("section", x.section(s, what), y.section(s, what));
    }
    for (int p = 0; p < 6; p++) {
      for (int what = 0; what < 9; what++) due.is("person", x.person(p, what), y.person(p, what));
    }
  }

  private static void triedByNoLaw() {
    SettlerColony x = Colony.settled(3, 25, 10);
    x.buy(0, 9);
    int law = Colony.enact(x, "price=20;wage=0;undo fall;");
    x.buy(1, 8);
    x.week(34);
    x.assent(law, false);
    due.is("as it is: one falls", x.tried(0, -1, 35, 0), 1);
    due.is("what is bought at a told price stays", x.tried(15, -1, 35, 0), 3);
    due.is("20 is paid back, 15 is not", x.tried(15, 100, 35, 2), x.count(5) - 20);
    due.is("nor 1", x.tried(1, 100, 35, 2), x.count(5) - 20);
    due.is("bought by the law, and undone", x.tried(0, -1, 34, 0), 2);
  }

  private static void prices() {
    due.promise(45);
    SettlerColony x = poor();
    x.worst(1, 10, 0, 0);
    due.is("none told", x.planned(1, 0), -1);
    due.argument("0", () -> x.prices(0, 1, 1));
    due.argument("0", () -> x.prices(1, 0, 1));
    due.argument("0", () -> x.prices(1, 1, 0));
    due.argument("1001", () -> x.prices(1001, 1, 1));
    due.argument("1001", () -> x.prices(1, 1001, 1));
    due.argument("1001", () -> x.prices(1, 1, 1001));
    due.is("none told still", x.planned(1, 0), -1);
    x.prices(1, 1000, 500);
    due.is("told", x.planned(1, 0), 0);
    x.prices(1000, 1000, 1);
    due.is("told anew", x.planned(1, 0), 2);
  }

  private static void worst() {
    due.promise(46);
    SettlerColony x = poor();
    x.prices(1, 1, 1);
    due.is("none told", x.planned(1, 2), -1);
    due.argument("0", () -> x.worst(0, 1, 1, 1));
    due.argument("4", () -> x.worst(4, 1, 1, 1));
    due.argument("-1", () -> x.worst(1, -1, 1, 1));
    due.argument("501", () -> x.worst(2, 1, 501, 1));
    due.argument("501", () -> x.worst(3, 1, 1, 501));
    due.is("none told still", x.planned(1, 2), -1);
    x.worst(3, 0, 500, 0);
    due.is("told", x.planned(1, 2), 0);
  }

  /** Forty PEOPLE; in WEEK 44 the harvest is near and wants rain, and the STORE is nearly empty. */
  private static SettlerColony hungryOnes() {
    SettlerColony x = new SettlerColony();
    for (int z = 0; z < 4; z++) x.rains(z, 5, 44);
    for (int p = 0; p < 4; p++) x.party(9);
    for (int k = 0; k < 40; k++) x.queue(k % 4, k);
    x.people(40, 0, 45);
    for (int p = 0; p < 40; p++) x.order(p);
    x.ship(0, 0, 0, 0);
    x.week(44);
    return x;
  }

  private static void planned() {
    due.promise(47);
    SettlerColony x = hungryOnes();
    x.prices(15, 30, 7);
    x.worst(1, 20, 0, 0);
    due.is("both cheap prices are as good: the first", x.planned(1, 0), 0);
    due.is("no second step", x.planned(1, 1), -1);
    due.is("farms", x.planned(1, 3), 40);
    x.prices(30, 16, 15);
    due.is("the cheap one", x.planned(1, 0), 2);
    x.worst(3, 20, 0, 20);
    int dry = x.planned(1, 2);
    x.worst(1, 0, 20, 20);
    due.is("the most hungry of three rains", x.planned(1, 2), dry);
    x.worst(1, 20, 0, 0);
    due.is("less by rain", x.planned(1, 2) < dry, true);
    due.is("two steps", x.planned(2, 0), 2);
    due.is("second: all are the same then", x.planned(2, 1), 0);
    due.is("hungry in two steps", x.planned(2, 2) > x.planned(1, 2), true);
    x.prices(1, 1, 1);
    due.is("all the same: the first", x.planned(2, 0) * 3 + x.planned(2, 1), 0);
    due.argument("0", () -> x.planned(0, 0));
    due.argument("3", () -> x.planned(3, 0));
    due.argument("-1", () -> x.planned(1, -1));
    due.argument("4", () -> x.planned(2, 4));
    SettlerColony y = poor();
    y.prices(5, 5, 5);
    y.worst(1, 10, 10, 10);
    for (int k = 0; k < 9; k++) y.week(104);
    y.week(3);
    due.is("to week 1000", y.planned(2, 0), 0);
    y.week(1);
    due.state("1001", () -> y.planned(2, 0));
    due.is("one step", y.planned(1, 0), 0);
    y.week(13);
    due.state("1001", () -> y.planned(1, 0));
    due.argument("and what", () -> y.planned(1, 4));
  }

  /**
   * There is one LOT. Number 1 would have it from the first WEEK on and could not keep hands to the harvest in WEEK 51;
   * number 0, who lands just then, hires four at once. So the best is a first step at a price that nobody has.
   */
  private static void plannedBySteps() {
    SettlerColony x = new SettlerColony();
    x.land(0, 9, false);
    x.party(9);
    x.queue(0, 0);
    x.people(2, 0, 45);
    x.people(40, 0, 20);
    for (int p = 1; p < 42; p++) x.order(p);
    x.ship(0, 0, 0, 0);
    x.week(17);
    x.order(0);
    x.ship(0, 0, 0, 0);
    x.week(21);
    x.prices(10, 1000, 5);
    x.worst(1, 10, 0, 0);
    due.is("the first step is dear", x.planned(2, 0), 1);
    due.is("the second is not", x.planned(2, 1), 0);
    due.is("one farm", x.planned(2, 3), 1);
    x.prices(1000, 1000, 1000);
    int without = x.planned(2, 2);
    x.prices(10, 1000, 5);
    due.is("9 by 5 of food", x.planned(2, 2), without - 45);
  }

  private static void image() {
    due.promise(48);
    SettlerColony x = Colony.settled(2, 29, 3);
    due.is("nothing taken", x.number(0), -1);
    x.buy(1, 0);
    x.squat(0, 1);
    due.is("numbers", x.image(), 98);
    due.promise(49);
    due.is("country of 1", x.number(0), 602);
    due.is("squat of 0", x.number(1), 1201);
    due.is("lot", x.number(2), 200);
    due.is("wild", x.number(95), 0);
    due.is("free", x.number(96), 29 * 8 + 2);
    due.is("own", x.number(97), 9 * 8 + 4);
    due.is("98", x.number(98), -1);
    due.is("-1", x.number(-1), -1);
    x.people(1, 0, 100);
    x.buy(0, 2);
    due.is("as it was", x.number(98), -1);
    due.is("as it was", x.number(2), 200);
    due.is("right", x.check(), -1);
    due.promise(48);
    due.is("again", x.image(), 99);
    due.is("new", x.number(98), 800);
  }

  private static void tear() {
    due.promise(50);
    SettlerColony x = Colony.settled(2, 29, 3);
    due.is("nothing taken", x.tear(0, 1), -1);
    x.image();
    due.is("altered", x.tear(2, 3), 203);
    due.is("is so", x.number(2), 203);
    due.is("back", x.tear(2, 3), 200);
    due.is("all bits", x.tear(95, -1), -1);
    due.is("highest bit", x.tear(94, 1 << 31), 1 << 31);
    due.is("98", x.tear(98, 1), -1);
    due.is("-1", x.tear(-1, 1), -1);
  }

  /** Alters two numbers by 2 and by -1 so that the place would be above all, or below 1. */
  private static int placeOf(SettlerColony x) {
    x.image();
    int first = x.number(0);
    x.tear(0, first ^ first - 1);
    int last = x.number(97);
    x.tear(97, last ^ last + 2);
    return x.check();
  }

  private static void check() {
    due.promise(51);
    SettlerColony x = Colony.settled(2, 29, 3);
    due.is("nothing taken", x.check(), -1);
    x.image();
    for (int k = 0; k < 98; k++) {
      x.tear(k, 1 << k % 32);
      due.is("place", x.check(), k);
      x.tear(k, 1 << k % 32);
    }
    due.is("right", x.check(), -1);
    x.tear(97, 0);
    due.is("not altered", x.check(), -1);
    SettlerColony y = Colony.settled(2, 29, 3);
    y.image();
    y.tear(90, 1);
    y.tear(91, 1);
    due.is("two", y.check(), -2);
    y.tear(92, 1);
    due.is("three that look like one", y.check(), 91);
    y.image();
    due.is("taken anew", y.check(), -1);
    y.tear(80, 1 << 31);
    y.tear(82, 1 << 31);
    due.is("two highest bits", y.check(), 81);
    y.image();
    y.tear(0, 1);
    y.tear(2, 1);
    due.is("d is 2, e is 4", y.check(), 1);
    y.image();
    y.tear(90, 1);
    y.tear(97, 4);
    due.is("d is 1 and 4, or less", y.check(), -2);
    y.image();
    int first = y.number(0);
    y.tear(0, first ^ first + 2);
    int second = y.number(1);
    y.tear(1, second ^ second - 1);
    due.is("d is 1, e is 0", y.check(), -2);
    due.is("a whole place that there is not", placeOf(y), -2);
  }
}
