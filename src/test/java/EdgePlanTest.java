/** The edges of terms 7 and of promises 44 to 51, each sentence of the document by itself. */
public final class EdgePlanTest {
  private static final int MIN = Integer.MIN_VALUE;
  private static final int MAX = Integer.MAX_VALUE;
  private static final Due due = new Due("EdgePlanTest");
  private static final Twins twins = new Twins(due, EdgePlanTest::told);

  public static void main(String[] args) {
    tried();
    triedAtTheEnd();
    triedAsItWillBe();
    triedPrice();
    triedShare();
    triedByNoLaw();
    prices();
    worst();
    planned();
    plannedAtTheEnd();
    plannedAsItWouldBe();
    plannedFirst();
    image();
    imageOfAll();
    number();
    tear();
    check();
    checkOfMany();
    checkOfWrapAround();
    due.end();
  }

  /** As busy(), with prices and RAINS of PLANS. */
  private static SettlerColony told() {
    SettlerColony x = Colony.busy();
    x.prices(7, 8, 9);
    x.worst(2, 5, 20, 0);
    return x;
  }

  // ---- promise 44 ----

  private static void tried() {
    due.says(44, "TRIED: 0 FARMS, 1 HUNGRY, 2 TREASURY, 3 STORE, 4 those HIRED, 5 PEOPLE HERE.");
    for (int what = 0; what < 6; what++) {
      int of = what;
      twins.refused("tried " + what, told().tried(15, 9, 104, what), x -> x.tried(15, 9, 104, of));
    }
    SettlerColony rain = wet();
    int dry = rain.tried(0, -1, 5, 1);
    rain.prices(1, 1, 1);
    rain.worst(1, 100, 0, 0);
    due.is("less HUNGRY by a RAIN that is planned by", rain.planned(1, 2) < rain.tried(0, -1, 13, 1), true);
    due.is("that is not what is tried by", rain.tried(0, -1, 5, 1), dry);
    rain.tried(9, 9, 5, 1);
    due.is("nor a price of another time", rain.tried(0, -1, 5, 1), dry);
    due.says(44, "IllegalArgumentException: the price is not 0 to 1,000, share not NONE to 100, WEEKS, or another what");
    SettlerColony x = told();
    due.is("price 0, share NONE, one WEEK", x.tried(0, -1, 1, 0), 2);
    due.is("price 1,000, share 100, 104 WEEKS", x.tried(1000, 100, 104, 0), 2);
    for (int price : new int[] {-1, 1001, MIN, MAX}) twins.argument("price " + price, y -> y.tried(price, 0, 1, 0));
    for (int share : new int[] {-2, 101, MIN, MAX}) twins.argument("share " + share, y -> y.tried(1, share, 1, 0));
    for (int weeks : new int[] {0, -1, 105, MIN, MAX}) twins.argument("WEEKS " + weeks, y -> y.tried(1, 0, weeks, 0));
    for (int what : new int[] {-1, 6, MIN, MAX}) twins.argument("what " + what, y -> y.tried(1, 0, 1, what));
  }

  private static void triedAtTheEnd() {
    due.says(44, "IllegalStateException: WEEK would be above 1,000.");
    SettlerColony x = Colony.go(told(), 896 - 35);
    due.is("104 from 896 on", x.tried(0, -1, 104, 5), 4);
    x.week(1);
    due.state("104 from 897 on", () -> x.tried(0, -1, 104, 5));
    due.is("103 from 897 on", x.tried(0, -1, 103, 5), 4);
    due.argument("105 from 897 on", () -> x.tried(0, -1, 105, 5));
    due.argument("104 from 897 on, and another what", () -> x.tried(0, -1, 104, 6));
    due.argument("104 from 897 on, and a price", () -> x.tried(1001, -1, 104, 0));
    x.week(103);
    due.state("one from 1,000 on", () -> x.tried(0, -1, 1, 0));
    due.argument("none from 1,000 on", () -> x.tried(0, -1, 0, 0));
    due.is("WEEK", x.count(0), 1000);
  }

  /** Colonies in which something of each kind is about to be. */
  private static SettlerColony scene(int which) {
    switch (which) {
      case 8: return finesForWages(false);
      case 9: return finesForWages(true);
      case 10: return runToBuy();
      case 11: return promiseToBuy();
      case 12: return bossOfOthers();
      default: break;
    }
    SettlerColony x = which < 4 ? Colony.busy() : Colony.owners(3, 500);
    if (which == 1) x.week(16);
    if (which == 2) x.ship(2, 3, 1, 1);
    if (which == 3) Colony.go(x, 250);
    if (which >= 4) pastures(x);
    if (which == 4 || which == 5 || which == 7) bills(x);
    if (which == 5) x.week(36);
    if (which == 6) lawsToFall(x);
    if (which == 7) x.week(51);
    return x;
  }

  private static void pastures(SettlerColony x) {
    x.squat(1, 12);
    x.stock(1, 12, 40);
    x.run(2, 20);
    x.stock(2, 20, 60);
    x.run(2, 14);
    x.fence(2, 14);
    x.stock(2, 14, 30);
    x.squat(0, 34);
    x.stock(0, 34, 9);
    for (int zone = 0; zone < 4; zone++) x.rains(zone, 9 + 6 * zone, 150);
  }

  private static void bills(SettlerColony x) {
    for (int sum = 30; sum < 34; sum++) x.bill(sum);
    x.pass(0);
    x.pass(3);
    x.pass(3);
    x.fund(95);
  }

  /** What 0 can pay as wages comes from fines for the STOCK of 1, unless it is fenced. */
  private static SettlerColony finesForWages(boolean fenced) {
    SettlerColony x = new SettlerColony();
    x.party(9);
    x.queue(0, 0);
    x.queue(0, 1);
    x.people(1, 0, 42);
    x.people(1, 2, 42);
    x.people(1, 0, 42);
    for (int p = 0; p < 3; p++) x.order(p);
    x.ship(0, 0, 0, 0);
    x.week(35);
    x.buy(0, 0);
    x.squat(1, 1);
    x.stock(1, 1, 8);
    if (fenced) x.fence(1, 1);
    return x;
  }

  /** The RUN of 0 is the only LOT to be. */
  private static SettlerColony runToBuy() {
    SettlerColony x = Colony.settled(2, 29, 1);
    x.run(0, 0);
    x.ask(0);
    x.draw(0);
    Colony.enact(x, "price=5;");
    return x;
  }

  /** Of two LOTS the one of the lesser SOIL has the greater PROMISE, by the RAIN that is SEEN; who buys it is at SEA. */
  private static SettlerColony promiseToBuy() {
    SettlerColony x = new SettlerColony();
    x.party(9);
    x.land(1, 4, false);
    x.land(3, 8, false);
    x.queue(0, 0);
    x.queue(0, 1);
    x.queue(0, 3);
    x.people(1, 0, 20);
    x.order(0);
    x.ship(0, 0, 0, 0);
    x.week(35);
    x.squat(0, 0);
    x.ask(0);
    x.draw(0);
    Colony.enact(x, "price=soil*5;share=0;");
    x.people(1, 0, 90);
    x.week(17);
    x.order(1);
    x.ship(0, 0, 0, 0);
    return x;
  }

  /** PERSON 1 has hired 0, 2 and 3, and can pay two of them once. */
  private static SettlerColony bossOfOthers() {
    SettlerColony x = Colony.settled(4, 24, 8);
    x.buy(1, 0);
    x.week(1);
    return x;
  }

  private static void lawsToFall(SettlerColony x) {
    Colony.enact(x, "price=sold+7;wage=1;fine=3;share=30;undo fall;");
    x.buy(0, 30);
    x.buy(1, 13);
    Colony.enact(x, "wage=4;undo fall;");
    x.week(34);
    x.assent(0, false);
    x.week(3);
    x.assent(1, true);
  }

  private static void triedAsItWillBe() {
    due.term(7, "by all RAINS that are told, no call in between: what is then");
    int[] counts = {3, 6, 5, 4};
    for (int which = 0; which < 13; which++) {
      for (int weeks : new int[] {1, 2, 3, 4, 5, 16, 17, 33, 34, 35, 36, 52, 53, 54, 68, 69, 70, 103, 104}) {
        SettlerColony x = scene(which);
        SettlerColony then = scene(which);
        then.week(weeks);
        String what = "scene " + which + ", " + weeks + " WEEKS, ";
        for (int k = 0; k < 4; k++) due.is(what + k, x.tried(0, -1, weeks, k), then.count(counts[k]));
        int hired = 0;
        for (int p = 0; p < then.count(1); p++) if (then.person(p, 2) == 3) hired++;
        due.is(what + "HIRED", x.tried(0, -1, weeks, 4), hired);
        due.is(what + "HERE", x.tried(0, -1, weeks, 5), then.count(2));
      }
    }
  }

  private static void triedPrice() {
    due.term(7, "as if the price were told so (0: as it is)");
    SettlerColony x = Colony.settled(3, 29, 8);
    x.ask(0);
    x.draw(0);
    Colony.enact(x, "price=25;");
    due.is("as it is", x.tried(0, -1, 1, 0), 0);
    due.is("19", x.tried(19, -1, 1, 0), 3);
    due.is("20", x.tried(20, -1, 1, 0), 0);
    due.is("1", x.tried(1, 0, 1, 2), 203);
    due.is("1,000", x.tried(1000, -1, 1, 0), 0);
    due.is("it is not told", x.means(0, -1), 25);
    Colony.enact(x, "price=19;");
    due.is("as it is now", x.tried(0, -1, 1, 0), 3);
    due.is("dearer", x.tried(20, -1, 1, 0), 0);
    due.is("a price of a SOIL is told away", x.tried(19, 0, 1, 2), 200 + 57);
  }

  private static void triedShare() {
    due.term(7, "and the share so (NONE: as it is)");
    SettlerColony x = Colony.settled(3, 29, 8);
    x.ask(0);
    x.draw(0);
    Colony.enact(x, "price=19;share=25;");
    due.is("as it is", x.tried(0, -1, 1, 2), 200 + 3 * 15);
    due.is("0 is a share", x.tried(0, 0, 1, 2), 200 + 3 * 19);
    due.is("1", x.tried(0, 1, 1, 2), 200 + 3 * 19);
    due.is("99", x.tried(0, 99, 1, 2), 200 + 3);
    due.is("100", x.tried(0, 100, 1, 2), 200);
    due.is("and the price", x.tried(10, 10, 1, 2), 200 + 3 * 9);
    due.is("it is not told", x.means(1, -1), 25);
  }

  private static void triedByNoLaw() {
    due.term(7, "(what is bought meanwhile at a price that is told is by no LAW; so with PLANNED)");
    SettlerColony x = toFall(69);
    due.is("bought by the LAW", x.tried(0, -1, 34, 0), 3);
    due.is("and UNDONE in WEEK 103", x.tried(0, -1, 35, 0), 0);
    due.is("a share that is told alters nothing of that", x.tried(0, 0, 35, 0), 0);
    due.is("bought at a price that is told", x.tried(19, -1, 34, 0), 3);
    due.is("by no LAW", x.tried(19, -1, 35, 0), 3);
    due.is("of whatever price", x.tried(1, 100, 35, 0), 3);
    SettlerColony y = toFall(90);
    due.is("by the LAW", y.tried(0, -1, 26, 0), 0);
    y.prices(19, 19, 19);
    y.worst(1, 10, 0, 0);
    due.is("so with PLANNED", y.planned(2, 3), 3);
    SettlerColony z = toFall(69);
    z.week(3);
    due.is("three FARMS by the LAW", z.count(3), 3);
    due.is("what was bought ahead is by it still", z.tried(19, -1, 31, 0), 3);
    due.is("and falls", z.tried(21, -1, 32, 0), 0);
  }

  /** That WEEK: three with 29 COINS and LAW 0, by which the price is 19, to be UNDONE in WEEK 103; soon three LOTS. */
  private static SettlerColony toFall(int week) {
    SettlerColony x = Colony.settled(3, 29, 0);
    x.ask(0);
    x.draw(0);
    Colony.enact(x, "price=19;undo fall;");
    x.week(34);
    x.assent(0, false);
    x.week(week - 69);
    for (int s = 0; s < 3; s++) {
      if (s > 0) x.party(9);
      x.queue(s, s);
    }
    return x;
  }

  // ---- promises 45 to 47 ----

  private static void prices() {
    due.says(45, "The three prices of PLANS. IllegalArgumentException: one is not 1 to 1,000.");
    for (int price : new int[] {0, -1, 1001, MIN, MAX}) {
      refusedPrices(price, 1, 1);
      refusedPrices(1, price, 1);
      refusedPrices(1, 1, price);
    }
    SettlerColony x = Colony.settled(3, 29, 8);
    x.worst(1, 10, 0, 0);
    x.prices(1000, 20, 1);
    due.is("the third", x.planned(1, 0), 2);
    x.prices(1000, 1, 20);
    due.is("told anew", x.planned(1, 0), 1);
    x.prices(1, 1000, 1000);
    due.is("told anew", x.planned(1, 0), 0);
  }

  private static void refusedPrices(int a, int b, int c) {
    SettlerColony x = Colony.settled(3, 29, 8);
    x.worst(1, 10, 0, 0);
    String what = a + ", " + b + ", " + c;
    due.argument(what, () -> x.prices(a, b, c));
    due.is(what + ": none are told", x.planned(1, 0), -1);
    x.prices(1000, 1, 1000);
    due.argument(what, () -> x.prices(a, b, c));
    due.is(what + ": they stay", x.planned(1, 0), 1);
  }

  private static void worst() {
    due.says(46, "The RAINS of PLANS: so many of three (0 to 500 each). IllegalArgumentException: they are not 1 to 3, or one is none"
        + " such.");
    for (int many : new int[] {0, 4, -1, MIN, MAX}) refusedWorst(many, 1, 1, 1);
    for (int rain : new int[] {-1, 501, MIN, MAX}) {
      for (int many = 1; many <= 3; many++) {
        refusedWorst(many, rain, 1, 1);
        refusedWorst(many, 1, rain, 1);
        refusedWorst(many, 1, 1, rain);
      }
    }
    SettlerColony x = wet();
    x.prices(1000, 1000, 1000);
    int[] hungry = new int[4];
    int[] rains = {0, 17, 100, 500};
    for (int k = 0; k < 4; k++) {
      x.worst(1, rains[k], 17, 17);
      hungry[k] = x.planned(1, 2);
    }
    due.is("240 of a YEAR and 308", hungry[0] - hungry[1], 9);
    due.is("308 and 640", hungry[1] - hungry[2], 9);
    due.is("308 and 2,240", hungry[1] - hungry[3], 0);
    x.worst(1, 100, 0, 17);
    due.is("the first alone", x.planned(1, 2), hungry[2]);
    x.worst(2, 100, 17, 0);
    due.is("the worst of two", x.planned(1, 2), hungry[1]);
    x.worst(2, 17, 100, 0);
    due.is("the worst of two", x.planned(1, 2), hungry[1]);
    x.worst(3, 100, 17, 0);
    due.is("the worst of three", x.planned(1, 2), hungry[0]);
    x.worst(3, 0, 17, 100);
    due.is("the worst of three", x.planned(1, 2), hungry[0]);
  }

  private static void refusedWorst(int many, int a, int b, int c) {
    SettlerColony x = Colony.settled(3, 29, 8);
    x.prices(1, 1, 1);
    String what = many + " of " + a + ", " + b + ", " + c;
    due.argument(what, () -> x.worst(many, a, b, c));
    due.is(what + ": none are told", x.planned(1, 0), -1);
    x.worst(1, 0, 0, 0);
    due.argument(what, () -> x.worst(many, a, b, c));
    due.is(what + ": they stay", x.planned(1, 0), 0);
  }

  /** One FARM (SOIL 9), forty PEOPLE who are HUNGRY, WEEK 48; no hands, and no LOTS. */
  private static SettlerColony wet() {
    SettlerColony x = new SettlerColony();
    for (int zone = 0; zone < 4; zone++) x.rains(zone, 5, 48);
    x.land(0, 9, false);
    x.party(9);
    x.queue(0, 0);
    x.people(1, 0, 50);
    x.people(39, 0, 20);
    for (int p = 0; p < 40; p++) x.order(p);
    x.ship(0, 0, 0, 0);
    x.week(35);
    Colony.enact(x, "wage=1000;");
    x.week(13);
    return x;
  }

  private static void planned() {
    due.says(47, "PLANNED for so many STEPS: 0 the first one's place of the three prices, 1 the second one's (NONE without), 2 HUNGRY at"
        + " most, 3 FARMS at least; NONE: no prices or no RAINS are told.");
    SettlerColony none = new SettlerColony();
    for (int what = 0; what < 4; what++) due.is("neither", none.planned(1, what), -1);
    none.prices(1, 2, 3);
    for (int what = 0; what < 4; what++) due.is("no RAINS", none.planned(2, what), -1);
    SettlerColony rains = new SettlerColony();
    rains.worst(3, 1, 2, 3);
    for (int what = 0; what < 4; what++) due.is("no prices", rains.planned(1, what), -1);
    rains.prices(1, 2, 3);
    int[] one = {0, -1, 0, 0};
    int[] two = {0, 0, 0, 0};
    for (int what = 0; what < 4; what++) due.is("one STEP", rains.planned(1, what), one[what]);
    for (int what = 0; what < 4; what++) due.is("two STEPS", rains.planned(2, what), two[what]);
    for (int what = 0; what < 4; what++) due.is("one STEP again", rains.planned(1, what), one[what]);
    for (int what = 0; what < 4; what++) {
      int of = what;
      twins.refused("planned " + what, told().planned(2, what), x -> x.planned(2, of));
    }
    due.says(47, "IllegalArgumentException: STEPS are not 1, 2, or another what");
    for (int steps : new int[] {0, 3, -1, MIN, MAX}) {
      twins.argument("STEPS " + steps, x -> x.planned(steps, 0));
      due.argument("STEPS " + steps + ", nothing told", () -> new SettlerColony().planned(steps, 0));
    }
    for (int what : new int[] {-1, 4, MIN, MAX}) {
      twins.argument("what " + what, x -> x.planned(1, what));
      due.argument("what " + what + ", nothing told", () -> new SettlerColony().planned(2, what));
    }
  }

  private static void plannedAtTheEnd() {
    due.says(47, "IllegalStateException: WEEK would be above 1,000.");
    int[] weeks = {974, 975, 987, 988, 1000};
    int[] steps = {2, 1, 1, 0, 0};
    for (int k = 0; k < weeks.length; k++) {
      SettlerColony x = Colony.go(told(), weeks[k] - 35);
      for (int step = 1; step < 3; step++) {
        int many = step;
        String what = step + " STEPS from " + weeks[k] + " on";
        if (step <= steps[k]) due.is(what, x.planned(step, 0) >= 0, true);
        else due.state(what, () -> x.planned(many, 0));
        due.argument(what + ", another what", () -> x.planned(many, 4));
      }
      due.argument("STEPS 3 from " + weeks[k] + " on", () -> x.planned(3, 0));
      due.is("WEEK", x.count(0), weeks[k]);
    }
  }

  /**
   * WEEK 38: a LOT of SOIL 9; 40 PEOPLE with up to 29 COINS, hardly any food; one with 15 COINS lands in WEEK 51, that
   * of the harvest. RAIN behind WEEK 37 as told, if it is told.
   */
  private static SettlerColony valley(int rain) {
    SettlerColony x = new SettlerColony();
    for (int zone = 0; zone < 4; zone++) {
      x.rains(zone, 12, 38);
      if (rain >= 0) x.rains(zone, rain, 100);
    }
    x.party(9);
    x.land(0, 9, false);
    x.queue(0, 0);
    for (int p = 0; p < 40; p++) x.people(1, 0, 20 + p % 30);
    x.people(1, 0, 35);
    for (int p = 0; p < 40; p++) x.order(p);
    x.ship(0, 0, 0, 0);
    x.week(17);
    x.order(40);
    x.ship(0, 0, 0, 0);
    x.week(21);
    x.ask(39);
    x.draw(0);
    return x;
  }

  /** HUNGRY and FARMS if laws told these prices, one behind the other, by that RAIN. */
  private static int[] live(int first, int second, int rain) {
    SettlerColony x = valley(rain);
    price(x, first);
    if (second > 0) price(x, second);
    return new int[] {x.count(6), x.count(3)};
  }

  /** That price by a LAW for 13 WEEKS. */
  private static void price(SettlerColony x, int price) {
    int law = Colony.law(x, "price=" + price + ";");
    x.vote(law, 39, true);
    x.close(law);
    x.week(13);
  }

  /** What is due: place, second place or NONE, HUNGRY at most, FARMS at least. */
  private static int[] best(int steps, int[] prices, int... rains) {
    int[] best = null;
    for (int first = 0; first < 3; first++) {
      for (int second = 0; second < (steps == 2 ? 3 : 1); second++) {
        int most = 0;
        int least = 1000;
        for (int rain : rains) {
          int[] then = live(prices[first], steps == 2 ? prices[second] : 0, rain);
          most = Math.max(most, then[0]);
          least = Math.min(least, then[1]);
        }
        if (best == null || most < best[2] || most == best[2] && least > best[3]) {
          best = new int[] {first, steps == 2 ? second : -1, most, least};
        }
      }
    }
    return best;
  }

  private static void plannedAsItWouldBe() {
    due.term(7, "of all rows of prices the one for which the most HUNGRY of up to three RAINS (each the same for all ZONES and WEEKS,"
        + " instead of what is told) is least; of these the one for which the least FARMS (by these RAINS) are most");
    int[][] prices = {{10, 1000, 5}, {5, 12, 19}, {19, 12, 5}, {12, 15, 9}, {20, 3, 11}, {14, 9, 8}, {7, 6, 1000}};
    int[][] rains = {{0}, {20}, {13, 60}, {60, 20, 0}};
    SettlerColony x = valley(-1);
    for (int zone = 0; zone < 4; zone++) x.rains(zone, 333, 100);
    boolean[] seen = new boolean[9];
    for (int[] p : prices) {
      for (int[] r : rains) {
        x.prices(p[0], p[1], p[2]);
        x.worst(r.length, r[0], r.length > 1 ? r[1] : 7, r.length > 2 ? r[2] : 8);
        for (int steps = 1; steps < 3; steps++) {
          int[] want = best(steps, p, r);
          for (int what = 0; what < 4; what++) {
            due.is(steps + " STEPS at " + p[0] + ", " + p[1] + ", " + p[2] + " by " + r.length + " RAINS, " + what,
                x.planned(steps, what), want[what]);
          }
          if (steps == 2) seen[want[0] * 3 + want[1]] = true;
        }
      }
    }
    int rows = 0;
    for (boolean row : seen) if (row) rows++;
    due.is("rows of many kinds are best", rows >= 4, true);
  }

  private static void plannedFirst() {
    due.term(7, "of these the first, STEP by STEP by which of the three.");
    SettlerColony x = Colony.settled(3, 29, 8);
    x.worst(1, 10, 0, 0);
    int[][] prices = {{5, 5, 5}, {1000, 5, 5}, {1000, 1000, 5}, {5, 1000, 5}, {1000, 1000, 1000}};
    int[] first = {0, 1, 2, 0, 0};
    for (int k = 0; k < prices.length; k++) {
      x.prices(prices[k][0], prices[k][1], prices[k][2]);
      due.is("one STEP, row " + k, x.planned(1, 0), first[k]);
    }
    int[] both = {0, 1, 2, 0, 0};
    for (int k = 0; k < prices.length; k++) {
      x.prices(prices[k][0], prices[k][1], prices[k][2]);
      int row = x.planned(2, 0) * 3 + x.planned(2, 1);
      due.is("two STEPS, row " + k, row, k == 1 ? 1 : k == 2 ? 2 : both[k] * 3 + both[k]);
    }
  }

  // ---- promises 48 to 51 ----

  private static void image() {
    due.term(7, "IMAGE: numbers of all SECTIONS (HOLDING, times 200, and its PERSON and 1, or 0), then of all PEOPLE (COINS times 8, and"
        + " what the PERSON is), as they are when it is taken");
    SettlerColony x = Colony.busy();
    x.people(1, 0, 1000000);
    due.says(48, "The IMAGE is taken: how many numbers it has.");
    due.is("96 and seven", x.image(), 103);
    int[] sections = {601, 1001, 802, 1203, 200, 200, 200, 200, 0};
    for (int s = 0; s < sections.length; s++) due.is("SECTION " + s, x.number(s), sections[s]);
    due.is("SECTION 95", x.number(95), 0);
    int[] people = {9 * 8 + 4, 24 * 8 + 2, 23 * 8 + 2, 29 * 8 + 2, 320, 320, 8000000};
    for (int p = 0; p < people.length; p++) due.is("PERSON " + p, x.number(96 + p), people[p]);
    x.ship(1, 0, 0, 0);
    x.week(1);
    due.is("as it was taken", x.number(97), 24 * 8 + 2);
    due.is("it is right", x.check(), -1);
    due.is("anew", x.image(), 104);
    due.is("HIRED", x.number(97), 24 * 8 + 3);
    due.is("at SEA", x.number(103), 5 * 8 + 1);
  }

  private static void imageOfAll() {
    SettlerColony x = new SettlerColony();
    due.is("nobody", x.image(), 96);
    due.is("the last one", x.number(95), 0);
    due.is("none behind", x.number(96), -1);
    x.people(100, 0, 1000000);
    due.is("none behind still", x.number(96), -1);
    due.is("none to alter", x.tear(96, 1), -1);
    due.is("100 PEOPLE", x.image(), 196);
    due.is("the last one", x.number(195), 8000000);
    due.is("none behind", x.number(196), -1);
    for (int k = 0; k < 196; k++) {
      due.is("altered", x.tear(k, MIN), k < 96 ? MIN : MIN + 8000000);
      due.is("the place of " + k, x.check(), k);
      x.tear(k, MIN);
      x.tear(k, -1);
      due.is("the place of " + k + ", all bits", x.check(), k);
      x.tear(k, -1);
    }
    due.is("right again", x.check(), -1);
  }

  private static void number() {
    due.says(49, "Number k of the IMAGE; NONE.");
    SettlerColony x = Colony.busy();
    for (int k : new int[] {-1, 0, 95, 96, 195, 196, MIN, MAX}) due.is("nothing is taken: " + k, x.number(k), -1);
    x.image();
    for (int k : new int[] {-1, 102, 195, 196, MIN, MAX}) due.is("number " + k, x.number(k), -1);
    due.is("number 101", x.number(101), 320);
  }

  private static SettlerColony taken() {
    SettlerColony x = Colony.busy();
    x.image();
    x.tear(5, 9);
    return x;
  }

  private static void tear() {
    due.says(50, "Number k of the IMAGE is altered by a mask: what it is then; NONE: there is none such.");
    SettlerColony x = Colony.busy();
    for (int k : new int[] {-1, 0, 95, 96, 196, MIN, MAX}) due.is("nothing is taken: " + k, x.tear(k, 1), -1);
    x.image();
    due.is("exclusive or", x.tear(0, 601 ^ 600), 600);
    due.is("what it is then", x.number(0), 600);
    due.is("back", x.tear(0, 1), 601);
    due.is("mask 0", x.tear(0, 0), 601);
    due.is("all bits", x.tear(0, -1), ~601);
    due.is("all bits again", x.tear(0, -1), 601);
    due.is("the highest bit", x.tear(0, MIN), MIN + 601);
    due.is("and the others", x.tear(0, MAX), ~601);
    x.tear(0, -1);
    due.is("-1 is a number, too", x.tear(95, -1), -1);
    due.is("so it is", x.number(95), -1);
    due.is("the SECTION is as it was", x.section(0, 0), 3);
    Twins torn = new Twins(due, EdgePlanTest::taken);
    for (int k : new int[] {-1, 102, 195, 196, MIN, MAX}) torn.refused("number " + k, -1, y -> y.tear(k, 7));
    torn.refused("mask 0 of the last one", 320, y -> y.tear(101, 0));
  }

  /** An IMAGE whose numbers are altered by so much, at these places (from 1 on): each place, then by how much. */
  private static int checked(int... alter) {
    SettlerColony x = Colony.busy();
    x.image();
    for (int k = 0; k < alter.length; k += 2) {
      int old = x.number(alter[k] - 1);
      x.tear(alter[k] - 1, old ^ old + alter[k + 1]);
    }
    return x.check();
  }

  private static void check() {
    due.says(51, "CHECKED: NONE: right, or nothing taken; the place, less one, that was altered; -2: more than one must have been.");
    SettlerColony x = Colony.busy();
    due.is("nothing taken", x.check(), -1);
    x.tear(0, 5);
    due.is("nothing taken still", x.check(), -1);
    x.image();
    due.is("right", x.check(), -1);
    x.tear(0, 5);
    due.is("the first place", x.check(), 0);
    due.is("asked again", x.check(), 0);
    x.image();
    due.is("taken anew", x.check(), -1);
    x.tear(101, 1 << 30);
    due.is("the last place", x.check(), 101);
    x.tear(101, 1 << 30);
    due.is("put right", x.check(), -1);
    for (int k = 1; k <= 102; k++) {
      due.is("1 more", checked(k, 1), k - 1);
      due.is("7 less", checked(k, -7), k - 1);
    }
  }

  private static void checkOfMany() {
    due.term(7, "both 0: it is right; else, if d is not 0, and e is d times a place that there is: that place; else more than one must"
        + " have been altered.");
    due.is("d 0, e 0", checked(50, 1, 51, -2, 52, 1), -1);
    due.is("d 0, e 0, far apart", checked(1, 1, 101, -1, 2, -1, 102, 1), -1);
    due.is("d 0, e -1", checked(50, 1, 51, -1), -2);
    due.is("d 0, e 30,300", checked(1, -300, 102, 300), -2);
    due.is("d 1, e 0", checked(1, 2, 2, -1), -2);
    due.is("d 1, e 1", checked(2, 2, 3, -1), 0);
    due.is("d 2, e 2", checked(1, 3, 2, -2, 3, 1), 0);
    due.is("d -1, e -1", checked(8, 6, 7, -7), 0);
    due.is("d -1, e 1", checked(1, -3, 2, 2), -2);
    due.is("d 1, e -1", checked(1, 3, 2, -2), -2);
    due.is("d 2, e 102", checked(50, 1, 52, 1), 50);
    due.is("d 2, e 101", checked(50, 1, 51, 1), -2);
    due.is("d -2, e -6", checked(2, -1, 4, -1), 2);
    due.is("d -2, e -5", checked(2, -1, 3, -1), -2);
    due.is("d 1, e 101", checked(99, -1, 100, 2), 100);
    due.is("d 1, e 102", checked(100, -1, 101, 2), 101);
    due.is("d 1, e 103: no such place", checked(101, -1, 102, 2), -2);
    due.is("d 1, e 105: no such place", checked(101, -1, 100, -1, 102, 3), -2);
  }

  private static void checkOfWrapAround() {
    due.term(7, "(exclusive or, of 32 bits)");
    SettlerColony x = Colony.busy();
    x.image();
    x.tear(60, MIN);
    x.tear(70, MIN);
    due.is("two highest bits: d is not 0", x.check(), 65);
    x.tear(70, MIN);
    x.tear(71, MIN);
    due.is("two highest bits, no place between", x.check(), -2);
    x.image();
    for (int k = 0; k < 4; k++) x.tear(80 + k, 1 << 30);
    due.is("four of 2 to 30: d is not 0", x.check(), -2);
    x.image();
    for (int k = 0; k < 5; k++) x.tear(80 + k, 1 << 30);
    due.is("five of 2 to 30", x.check(), 82);
    x.image();
    for (int k = 0; k < 96; k++) x.tear(k, MIN);
    due.is("96 highest bits", x.check(), -2);
    x.tear(95, MIN);
    due.is("95 highest bits", x.check(), 47);
  }
}
