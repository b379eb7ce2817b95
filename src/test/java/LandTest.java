/** Promises 1 to 9 and 12 to 15: land, rain, survey. */
public final class LandTest {
  private static final Due due = new Due("LandTest");

  public static void main(String[] args) {
    newObject();
    land();
    rain();
    rains();
    fell();
    seenAndPromise();
    section();
    is();
    party();
    queue();
    where();
    lot();
    survey();
    due.end();
  }

  private static void newObject() {
    due.promise(1);
    SettlerColony x = new SettlerColony();
    int[] first = {0, 0, 0, 0, 500, 200, 0, 0, 0, 0, 0, 0, 0, 0, 0};
    for (int what = 0; what < first.length; what++) due.is("count(" + what + ")", x.count(what), first[what]);
    for (int s = 0; s < 96; s++) due.is("section(" + s + ", 0)", x.section(s, 0), 0);
    due.is("NONE", SettlerColony.NONE, -1);
    due.is("soil by promise", x.promise(95), 50);
    due.is("no water", x.section(95, 6), 7);
    due.is("fell", x.fell(3, 1000), 10);
    due.is("planned", x.planned(2, 0), -1);
    due.is("check", x.check(), -1);
    due.is("fault", x.fault(), -1);
    due.index("person", () -> x.person(0, 0));
    due.index("law", () -> x.force(0));
    due.index("party", () -> x.where(0, 0));
    due.index("bill", () -> x.billed(0));
  }

  private static void land() {
    due.promise(2);
    SettlerColony x = new SettlerColony();
    due.is("land", x.land(7, 0, false), 1);
    due.is("promise", x.promise(7), 0);
    due.is("miles soil 0", x.section(7, 6), 9);
    int[] miles = {9, 8, 8, 8, 7, 7, 7, 6, 6, 6};
    for (int soil = 0; soil < 10; soil++) {
      x.land(8, soil, false);
      due.is("miles of soil " + soil, x.section(8, 6), miles[soil]);
      x.land(8, soil, true);
      due.is("miles of soil and water " + soil, x.section(8, 6), miles[soil] + 3);
    }
    due.index("-1", () -> x.land(-1, 0, false));
    due.index("96", () -> x.land(96, 0, false));
    due.index("96 and soil", () -> x.land(96, 10, false));
    due.argument("soil -1", () -> x.land(0, -1, false));
    due.argument("soil 10", () -> x.land(95, 10, false));
    x.party(5);
    x.queue(0, 0);
    x.week(1);
    due.is("five are done", x.section(0, 6), 2);
    due.is("again", x.land(0, 5, false), 1);
    due.is("all are wanted again", x.section(0, 6), 7);
    x.week(2);
    due.is("a lot", x.section(0, 0), 1);
    due.is("not wild", x.land(0, 9, true), -1);
    due.is("nothing done", x.promise(0), 50);
    due.argument("soil 10 of what is not wild", () -> x.land(0, 10, false));
  }

  private static void rain() {
    due.promise(3);
    SettlerColony x = new SettlerColony();
    due.is("first", x.rain(0, 0), 1);
    due.is("second", x.rain(0, 500), 2);
    due.is("other zone", x.rain(3, -1), 1);
    due.argument("501", () -> x.rain(0, 501));
    due.argument("-2", () -> x.rain(0, -2));
    due.index("-1", () -> x.rain(-1, 5));
    due.index("4", () -> x.rain(4, 5));
    due.index("4 and 501", () -> x.rain(4, 501));
    due.is("998 more", x.rains(0, 3, 998), 1000);
    due.is("full", x.rain(0, 4), -1);
    due.argument("full and 501", () -> x.rain(0, 501));
    due.is("still", x.fell(0, 999), 3);
  }

  private static void rains() {
    due.promise(4);
    SettlerColony x = new SettlerColony();
    due.is("one", x.rains(1, 500, 1), 1);
    due.is("999 more", x.rains(1, 0, 999), 1000);
    due.is("one too many", x.rains(1, 0, 1), -1);
    due.is("two", x.rains(2, 7, 2), 2);
    due.is("too many", x.rains(2, 8, 999), -1);
    due.is("nothing done", x.rain(2, 9), 3);
    due.is("all 1000", x.rains(3, 1, 1000), 1000);
    due.argument("-1", () -> x.rains(0, -1, 5));
    due.argument("501", () -> x.rains(0, 501, 5));
    due.argument("0 weeks", () -> x.rains(0, 5, 0));
    due.argument("1001 weeks", () -> x.rains(0, 5, 1001));
    due.argument("-1 weeks", () -> x.rains(0, 5, -1));
    due.index("zone", () -> x.rains(4, 5, 5));
    due.index("zone -1", () -> x.rains(-1, 501, 0));
  }

  private static void fell() {
    due.promise(5);
    SettlerColony x = new SettlerColony();
    x.rain(0, 5);
    x.rain(1, -1);
    x.rain(2, 10);
    x.rain(3, -1);
    due.is("told", x.fell(0, 0), 5);
    due.is("mean, cut", x.fell(1, 0), 7);
    due.is("one neighbour", x.fell(3, 0), 10);
    due.is("untold", x.fell(0, 1), 10);
    x.rain(0, -1);
    x.rain(1, -1);
    x.rain(2, 30);
    due.is("neighbour is no number", x.fell(0, 1), 0);
    due.is("one that is", x.fell(1, 1), 30);
    x.rain(1, -1);
    due.is("neighbours untold", x.fell(1, 2), 0);
    x.rain(0, 0);
    due.is("a zero is a number", x.fell(1, 2), 0);
    x.rain(2, 9);
    due.is("mean with a zero", x.fell(1, 2), 4);
    due.is("last week", x.fell(2, 1000), 10);
    due.argument("-1", () -> x.fell(0, -1));
    due.argument("1001", () -> x.fell(0, 1001));
    due.index("zone 4", () -> x.fell(4, 0));
    due.index("zone -1 and week", () -> x.fell(-1, -1));
  }

  private static void seenAndPromise() {
    due.promise(6);
    SettlerColony x = Colony.settled(1, 29, 3);
    x.squat(0, 2);
    due.is("not yet", x.seen(0), 0);
    x.week(16);
    due.is("week 51", x.seen(0), 0);
    due.is("promise without", x.promise(0), 50);
    x.week(1);
    due.is("a year", x.seen(0), 1);
    due.is("zone 1", x.seen(1), 0);
    due.is("zone 3", x.seen(3), 0);
    due.index("4", () -> x.seen(4));
    due.index("-1", () -> x.seen(-1));
    due.promise(7);
    due.is("520 of a year", x.promise(0), 50 + 52);
    due.is("zone of sections 2, 3", x.promise(2) - x.promise(3), 52);
    due.is("row below", x.promise(12 + 2), 102);
    x.rains(0, 1, 52);
    x.rains(0, 11, 52);
    x.week(52);
    due.is("two years", x.seen(0), 2);
    due.is("mean of 520 and 572 by 10", x.promise(2), 50 + 54);
    x.week(52);
    due.is("mean of 520, 572 and 520", x.promise(2), 50 + 53);
    due.index("96", () -> x.promise(96));
    due.index("-1", () -> x.promise(-1));
  }

  private static void facts(SettlerColony x, int section, int... want) {
    for (int what = 0; what < want.length; what++) {
      due.is("section(" + section + ", " + what + ")", x.section(section, what), want[what]);
    }
  }

  private static void section() {
    due.promise(8);
    SettlerColony x = Colony.settled(2, 29, 12);
    facts(x, 50, 0, -1, -1, -1, -1, -1, 7);
    facts(x, 0, 1, -1, -1, -1, -1, -1, 0);
    x.buy(0, 0);
    facts(x, 0, 3, 0, -1, -1, -1, 20, 0);
    x.choose(0, 1);
    facts(x, 1, 5, 0, -1, -1, -1, 20, 0);
    x.run(1, 2);
    facts(x, 2, 4, 1, 87, 0, 0, -1, 0);
    x.squat(1, 3);
    facts(x, 3, 6, 1, -1, 0, 0, -1, 0);
    x.stock(1, 3, 2);
    x.fence(1, 3);
    facts(x, 3, 6, 1, -1, 2, 1, -1, 0);
    due.index("96", () -> x.section(96, 0));
    due.index("-1", () -> x.section(-1, 9));
    due.argument("-1", () -> x.section(0, -1));
    due.argument("7", () -> x.section(0, 7));
  }

  private static void is() {
    due.promise(9);
    SettlerColony x = Colony.settled(2, 29, 12);
    x.buy(0, 0);
    x.choose(0, 1);
    x.run(1, 2);
    x.squat(1, 3);
    boolean[][] want = {{true, true, false, true}, {true, true, false, true}, {true, false, true, true},
        {true, false, true, true}, {true, false, false, false}};
    for (int s = 0; s < 5; s++) {
      for (int what = 0; what < 4; what++) due.is("is(" + s + ", " + what + ")", x.is(s, what), want[s][what]);
    }
    for (int what = 0; what < 4; what++) due.is("wild", x.is(95, what), false);
    due.index("96", () -> x.is(96, 0));
    due.index("-1", () -> x.is(-1, 4));
    due.argument("-1", () -> x.is(0, -1));
    due.argument("4", () -> x.is(0, 4));
  }

  private static void party() {
    due.promise(12);
    SettlerColony x = new SettlerColony();
    due.argument("0", () -> x.party(0));
    due.argument("10", () -> x.party(10));
    for (int p = 0; p < 4; p++) due.is("party", x.party(p == 0 ? 1 : 9), p);
    due.is("fifth", x.party(5), -1);
    due.argument("fifth, pace 0", () -> x.party(0));
    due.is("how many", x.count(10), 4);
  }

  private static void queue() {
    due.promise(13);
    SettlerColony x = new SettlerColony();
    x.party(9);
    x.queue(0, 0);
    x.week(1);
    due.is("a lot", x.section(0, 0), 1);
    due.is("not wild", x.queue(0, 0), -2);
    for (int k = 1; k <= 12; k++) due.is("queue", x.queue(0, 95), k);
    due.is("full", x.queue(0, 94), -1);
    due.is("full first", x.queue(0, 0), -1);
    due.index("party", () -> x.queue(1, 0));
    due.index("party -1", () -> x.queue(-1, 0));
    due.index("section", () -> x.queue(0, 96));
    due.index("section -1", () -> x.queue(0, -1));
    due.is("same twice", x.where(0, 1), 12);
  }

  private static void where() {
    due.promise(14);
    SettlerColony x = new SettlerColony();
    x.party(3);
    due.is("at first", x.where(0, 0), 0);
    due.is("none queued", x.where(0, 1), 0);
    due.is("no first", x.where(0, 2), -1);
    x.queue(0, 26);
    x.queue(0, 11);
    due.is("two queued", x.where(0, 1), 2);
    due.is("the first", x.where(0, 2), 26);
    x.week(1);
    due.is("along x, then along y", x.where(0, 0), 14);
    due.index("1", () -> x.where(1, 0));
    due.index("-1", () -> x.where(-1, 3));
    due.argument("3", () -> x.where(0, 3));
    due.argument("-1", () -> x.where(0, -1));
  }

  private static void lot() {
    due.promise(15);
    SettlerColony x = new SettlerColony();
    due.is("nobody goes", x.lot(0), -1);
    x.party(1);
    x.queue(0, 0);
    x.queue(0, 95);
    due.is("seven miles", x.lot(0), 7);
    due.is("not queued", x.lot(1), -1);
    due.is("18 miles away", x.lot(95), 7 + 18 + 7);
    x.party(9);
    x.queue(1, 95);
    due.is("another party", x.lot(95), 3);
    due.is("nothing changed", x.where(0, 0), 0);
    due.is("nothing changed", x.count(0), 0);
    x.week(3);
    due.is("done", x.lot(95), 0);
    due.index("96", () -> x.lot(96));
    due.index("-1", () -> x.lot(-1));
    SettlerColony y = new SettlerColony();
    y.party(1);
    for (int k = 0; k < 12; k++) y.land(k % 2 == 0 ? 95 - k : k, 0, true);
    for (int k = 0; k < 12; k++) y.queue(0, k % 2 == 0 ? 95 - k : k);
    int miles = 0;
    int at = 0;
    for (int k = 0; k < 12; k++) {
      int to = k % 2 == 0 ? 95 - k : k;
      miles += Math.abs(at % 12 - to % 12) + Math.abs(at / 12 - to / 12) + 12;
      at = to;
    }
    due.is("the longest way", y.lot(11), miles);
  }

  private static void survey() {
    due.promise(42);
    SettlerColony x = new SettlerColony();
    x.party(7);
    x.party(9);
    x.queue(0, 0);
    x.queue(0, 1);
    x.queue(1, 0);
    x.queue(1, 1);
    x.queue(1, 0);
    x.week(1);
    due.is("first party does it with its last mile", x.section(0, 0), 1);
    due.is("it is out of the queue though no mile is left", x.where(0, 1), 1);
    due.is("the second goes on at once", x.where(1, 0), 1);
    due.is("a lot by the second", x.section(1, 0), 1);
    due.is("both later ones are out", x.where(1, 1), 0);
    due.is("the first keeps it till its turn", x.where(0, 2), 1);
    x.week(1);
    due.is("then it is out", x.where(0, 1), 0);
    due.is("and did not go", x.where(0, 0), 0);
    SettlerColony y = new SettlerColony();
    y.party(4);
    y.party(2);
    y.queue(0, 0);
    y.queue(1, 0);
    y.week(1);
    due.is("together", y.section(0, 6), 1);
    y.week(1);
    due.is("done together", y.section(0, 0), 1);
  }
}
