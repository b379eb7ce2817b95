/** The edges of terms 1 and 4 and of promises 1 to 9 and 12 to 15, each sentence of the document by itself. */
public final class EdgeLandTest {
  private static final int[] NO_SECTIONS = {-1, 96, Integer.MIN_VALUE, Integer.MAX_VALUE};
  private static final int[] NO_ZONES = {-1, 4, Integer.MIN_VALUE, Integer.MAX_VALUE};
  private static final Due due = new Due("EdgeLandTest");
  private static final Twins twins = new Twins(due, Colony::busy);

  public static void main(String[] args) {
    newObject();
    zones();
    neighbours();
    land();
    landNotWild();
    rain();
    rains();
    fell();
    fellOfNoNumber();
    seen();
    seenInItsLastWeek();
    promise();
    section();
    is();
    party();
    queue();
    where();
    lot();
    lotOfMiles();
    miles();
    outOfTheQueue();
    partiesByNumber();
    due.end();
  }

  // ---- promise 1, terms 1 ----

  private static void newObject() {
    due.says(1, "WEEK 0: all SECTIONS WILD; nobody, no LAWS, PARTIES, SHIPS, BILLS; nothing told.");
    Colony.busy();
    SettlerColony x = new SettlerColony();
    for (int s = 0; s < 96; s++) due.is("HOLDING of " + s, x.section(s, 0), 0);
    int[] none = {0, 1, 2, 3, 6, 7, 8, 9, 10, 11, 12, 13, 14};
    for (int what : none) due.is("count(" + what + ")", x.count(what), 0);
    for (int zone = 0; zone < 4; zone++) due.is("the first RAIN of " + zone, x.rain(zone, 3), 1);
    due.index("PERSON 0", () -> x.person(0, 0));
    due.index("LAW 0", () -> x.force(0));
    due.index("PARTY 0", () -> x.where(0, 0));
    due.index("BILL 0", () -> x.billed(0));
    due.argument("a byte of the TAPE", () -> x.law(1));
    due.is("nobody asks", x.draw(0), 0);
    due.is("no prices", x.planned(1, 0), -1);
    due.is("no FAULT", x.fault(), -1);
    due.is("no IMAGE", x.number(0), -1);
    due.is("no row", x.as(0, 0, 0), -2000000000);
    due.term(2, "STORE: so much food (500 at first).");
    due.is("STORE", x.count(4), 500);
    due.term(2, "TREASURY (200 at first) may go below 0.");
    due.is("TREASURY", x.count(5), 200);
    due.term(2, "PASSAGES: what is to bring people over (0 at first).");
    due.is("PASSAGES", x.passages(), 0);
  }

  private static void zones() {
    due.term(1, "ZONE of a SECTION: x by 3, cut (0 to 3).");
    int[] sections = {0, 2, 3, 5, 6, 8, 9, 11, 12, 14, 15, 83, 84, 95};
    int[] zones = {0, 0, 1, 1, 2, 2, 3, 3, 0, 0, 1, 3, 0, 3};
    for (int k = 0; k < sections.length; k++) {
      SettlerColony x = held(sections[k]);
      for (int zone = 0; zone < 4; zone++) {
        due.is("ZONE " + zone + " by SECTION " + sections[k], x.seen(zone), zone == zones[k] ? 1 : 0);
      }
    }
  }

  /** A SECTION, the only LOT, is a SQUAT in WEEK 40; it is WEEK 52. */
  private static SettlerColony held(int section) {
    SettlerColony x = new SettlerColony();
    x.party(9);
    x.queue(0, section);
    x.people(1, 0, 20);
    x.order(0);
    x.ship(0, 0, 0, 0);
    x.week(40);
    due.is("a SQUAT on " + section, x.squat(0, section), 1);
    x.week(12);
    return x;
  }

  private static void neighbours() {
    due.term(1, "NEIGHBOURS are those beside, above, below.");
    int[][] pairs = {{0, 1}, {0, 12}, {11, 10}, {11, 23}, {84, 72}, {84, 85}, {95, 94}, {95, 83}, {13, 1}, {13, 25},
        {1, 0}, {13, 12}, {10, 11}, {22, 23}, {94, 95}, {12, 0}, {23, 11}};
    for (int[] pair : pairs) stray(pair[0], pair[1], true);
    int[][] apart = {{0, 11}, {11, 12}, {12, 11}, {0, 13}, {0, 84}, {0, 95}, {84, 83}, {83, 84}, {95, 0}, {13, 15}, {13, 37}};
    for (int[] pair : apart) stray(pair[0], pair[1], false);
  }

  /** STOCK of PERSON 1 strays from a PASTURE, with the FARM of PERSON 0 beside it or not: 8 less one, or 8 still. */
  private static void stray(int pasture, int farm, boolean beside) {
    SettlerColony x = new SettlerColony();
    for (int p = 0; p < 2; p++) x.party(9);
    x.land(farm, 9, false);
    x.queue(0, farm);
    x.queue(1, pasture);
    x.people(1, 0, 59);
    x.people(1, 0, 49);
    for (int p = 0; p < 2; p++) x.order(p);
    x.ship(0, 0, 0, 0);
    x.week(35);
    x.squat(1, pasture);
    x.stock(1, pasture, 8);
    x.week(1);
    due.is("the FARM", x.section(farm, 1), 0);
    due.is("STOCK of " + pasture + ", a FARM at " + farm, x.section(pasture, 3), beside ? 8 : 7);
  }

  // ---- promises 2 to 7 ----

  private static void land() {
    SettlerColony x = new SettlerColony();
    due.term(1, "SOIL: 0 to 9 (5 at first).");
    due.is("SOIL of 0", x.promise(0), 50);
    due.is("SOIL of 95", x.promise(95), 50);
    due.term(1, "WATER: there or not (not at first).");
    due.is("miles of 0", x.section(0, 6), 7);
    due.is("miles of 95", x.section(95, 6), 7);
    due.says(2, "(all its miles are wanted again): 1");
    x.party(4);
    x.land(0, 0, true);
    x.queue(0, 0);
    x.week(2);
    due.is("8 of 12 are done", x.section(0, 6), 4);
    due.is("SOIL 0 and WATER again", x.land(0, 0, true), 1);
    due.is("12 are wanted again", x.section(0, 6), 12);
    x.week(2);
    due.is("SOIL 9", x.land(0, 9, false), 1);
    due.is("6 are wanted", x.section(0, 6), 6);
    due.is("SOIL", x.promise(0), 90);
    due.says(2, "IndexOutOfBoundsException: no such SECTION (so below); IllegalArgumentException: the SOIL.");
    for (int s : NO_SECTIONS) {
      twins.index("SECTION " + s, y -> y.land(s, 5, true));
      due.index("SECTION " + s + " and SOIL 10", () -> x.land(s, 10, true));
    }
    for (int soil : new int[] {-1, 10, Integer.MIN_VALUE, Integer.MAX_VALUE}) {
      twins.argument("SOIL " + soil, y -> y.land(15, soil, true));
      twins.argument("SOIL " + soil + " of a LOT", y -> y.land(7, soil, true));
    }
  }

  private static void landNotWild() {
    due.says(2, "-1, doing nothing: it is not WILD.");
    String[] holdings = {"COUNTRY", "ORDER", "RUN", "SQUAT", "LOT"};
    for (int s = 0; s < 5; s++) {
      int section = s;
      twins.refused("land on a " + holdings[s], -1, x -> x.land(section, 9, true));
    }
  }

  private static void rain() {
    due.says(3, "The next RAIN of a ZONE (NONE: NO NUMBER): how many are told; -1, doing nothing: 1,000 are.");
    SettlerColony x = new SettlerColony();
    due.is("0 is a RAIN", x.rain(0, 0), 1);
    due.is("500 is a RAIN", x.rain(0, 500), 2);
    due.is("NO NUMBER counts, too", x.rain(0, -1), 3);
    x.rains(0, 4, 996);
    due.is("the 1,000th", x.rain(0, 5), 1000);
    due.is("the 1,001st", x.rain(0, 6), -1);
    due.is("the 1,001st, NO NUMBER", x.rain(0, -1), -1);
    due.is("the last is what it was", x.fell(0, 999), 5);
    due.is("the first is what it was", x.fell(0, 0), 0);
    due.is("another ZONE", x.rain(1, 5), 1);
    new Twins(due, EdgeLandTest::toldToTheEnd).refused("a RAIN behind 1,000", -1, y -> y.rain(0, 6));
    due.says(3, "IndexOutOfBoundsException: no such ZONE (so below); IllegalArgumentException: it is none such.");
    for (int zone : NO_ZONES) {
      twins.index("ZONE " + zone, y -> y.rain(zone, 5));
      due.index("ZONE " + zone + " and 501", () -> x.rain(zone, 501));
    }
    for (int rain : new int[] {-2, 501, Integer.MIN_VALUE, Integer.MAX_VALUE}) {
      twins.argument("RAIN " + rain, y -> y.rain(0, rain));
      due.argument("RAIN " + rain + " behind 1,000", () -> x.rain(0, rain));
    }
  }

  private static SettlerColony toldToTheEnd() {
    SettlerColony x = Colony.busy();
    x.rains(0, 9, 1000);
    return x;
  }

  private static void rains() {
    due.says(4, "how many are told; -1, doing nothing: there would be more than 1,000.");
    SettlerColony x = new SettlerColony();
    due.is("one WEEK", x.rains(0, 0, 1), 1);
    due.is("as many as there is room for", x.rains(0, 500, 999), 1000);
    due.is("one more", x.rains(0, 7, 1), -1);
    due.is("1,000 at once", x.rains(1, 7, 1000), 1000);
    due.is("two", x.rains(2, 7, 2), 2);
    due.is("one too many", x.rains(2, 8, 999), -1);
    due.is("none of them is told", x.fell(2, 2), 10);
    due.is("998 are not too many", x.rains(2, 8, 998), 1000);
    twins.refused("more than 1,000", -1, y -> y.rains(1, 8, 961));
    due.says(4, "IllegalArgumentException: it is not 0 to 500, or WEEKS are not 1 to 1,000.");
    for (int rain : new int[] {-1, 501, Integer.MIN_VALUE, Integer.MAX_VALUE}) {
      twins.argument("RAIN " + rain, y -> y.rains(1, rain, 1));
      due.argument("RAIN " + rain + " behind 1,000", () -> x.rains(0, rain, 1));
    }
    for (int weeks : new int[] {0, -1, 1001, Integer.MIN_VALUE, Integer.MAX_VALUE}) {
      twins.argument("WEEKS " + weeks, y -> y.rains(1, 5, weeks));
      due.argument("WEEKS " + weeks + " behind 1,000", () -> x.rains(0, 5, weeks));
    }
    for (int zone : NO_ZONES) {
      twins.index("ZONE " + zone, y -> y.rains(zone, 5, 1));
      due.index("ZONE " + zone + " and no RAIN", () -> x.rains(zone, 501, 0));
    }
  }

  private static void fell() {
    due.term(1, "One that is not told is 10.");
    SettlerColony x = new SettlerColony();
    x.rains(1, 0, 2);
    due.is("told", x.fell(1, 1), 0);
    due.is("behind what is told", x.fell(1, 2), 10);
    due.is("beside one that is told", x.fell(0, 1), 10);
    x.rains(2, 7, 1000);
    due.is("WEEK 999", x.fell(2, 999), 7);
    due.is("WEEK 1,000 is never told", x.fell(2, 1000), 10);
    due.says(5, "IllegalArgumentException: the WEEK is not 0 to 1,000.");
    due.is("WEEK 0", x.fell(2, 0), 7);
    for (int week : new int[] {-1, 1001, Integer.MIN_VALUE, Integer.MAX_VALUE}) {
      due.argument("WEEK " + week, () -> x.fell(2, week));
      due.index("ZONE 4 and WEEK " + week, () -> x.fell(4, week));
    }
    due.says(5, "RAIN of a ZONE in a WEEK.");
    for (int zone : NO_ZONES) due.index("ZONE " + zone, () -> x.fell(zone, 0));
  }

  /** What a ZONE that is NO NUMBER has in WEEK 0, if the others have been told so (-2: not told). */
  private static void noNumber(int zone, int a, int b, int c, int d, int want) {
    SettlerColony x = new SettlerColony();
    int[] told = {a, b, c, d};
    for (int z = 0; z < 4; z++) if (told[z] != -2) x.rain(z, told[z]);
    due.is("ZONE " + zone + " of " + a + ", " + b + ", " + c + ", " + d, x.fell(zone, 0), want);
  }

  private static void fellOfNoNumber() {
    due.term(1, "One that is NO NUMBER is the mean, cut, of the ZONES' next to it in that WEEK (ZONE less one, ZONE and one)"
        + " that are there, told, and numbers; 0 if none is.");
    noNumber(1, 4, -1, 8, 100, 6);
    noNumber(1, 4, -1, 7, 100, 5);
    noNumber(1, 0, -1, 1, 100, 0);
    noNumber(2, 100, 500, -1, 500, 500);
    noNumber(2, 100, 0, -1, 0, 0);
    noNumber(2, 100, 0, -1, 499, 249);
    noNumber(0, -1, 9, 100, 100, 9);
    noNumber(3, 100, 100, 9, -1, 9);
    noNumber(0, -1, -2, 100, 100, 0);
    noNumber(3, 100, 100, -2, -1, 0);
    noNumber(0, -1, -1, 100, 100, 0);
    noNumber(1, -2, -1, 8, 100, 8);
    noNumber(1, 8, -1, -2, 100, 8);
    noNumber(1, -1, -1, 8, 100, 8);
    noNumber(1, 8, -1, -1, 100, 8);
    noNumber(1, -1, -1, -2, 100, 0);
    noNumber(1, -2, -1, -2, 100, 0);
    noNumber(2, 100, -1, -1, -1, 0);
    SettlerColony x = new SettlerColony();
    x.rain(1, -1);
    due.is("none is told yet", x.fell(1, 0), 0);
    x.rain(2, 30);
    due.is("one is told now", x.fell(1, 0), 30);
    x.rain(0, 10);
    due.is("both are told now", x.fell(1, 0), 20);
    due.is("the next WEEK is not told", x.fell(1, 1), 10);
  }

  private static void seen() {
    due.term(6, "a ZONE in which a SECTION is held by a PERSON is SEEN");
    SettlerColony x = Colony.settled(1, 0, 12);
    x.week(17);
    for (int zone = 0; zone < 4; zone++) due.is("LOTS alone", x.seen(zone), 0);
    for (int kind = 0; kind < 4; kind++) {
      SettlerColony y = Colony.settled(1, 29, 12);
      if (kind == 0) y.buy(0, 3);
      if (kind == 1) y.choose(0, 3);
      if (kind == 2) y.run(0, 3);
      if (kind == 3) y.squat(0, 3);
      y.week(16);
      due.is("ahead of the last WEEK", y.seen(1), 0);
      y.week(1);
      due.is("kind " + kind, y.seen(1), 1);
      due.is("not the ZONE beside", y.seen(0) + y.seen(2), 0);
      y.week(51);
      due.is("once a YEAR", y.seen(1), 1);
      y.week(1);
      due.is("a RUN has ended by then", y.seen(1), kind == 2 ? 1 : 2);
    }
    due.says(6, "How many YEARS of a ZONE are SEEN.");
    for (int zone : NO_ZONES) due.index("ZONE " + zone, () -> x.seen(zone));
  }

  private static void seenInItsLastWeek() {
    due.term(6, "(g) A RUN that ENDS in this WEEK is a LOT (its STOCK is gone).");
    for (int late = 0; late < 2; late++) {
      SettlerColony x = Colony.settled(1, 29, 12);
      x.week(16 + late);
      x.run(0, 0);
      due.is("ENDS", x.section(0, 2), 103 + late);
      int before = x.seen(0);
      x.week(52 - late);
      due.is("WEEK", x.count(0), 103);
      due.is("a RUN still", x.section(0, 0), 4);
      int then = x.seen(0);
      due.is("SEEN in WEEK 51 if it was there", then - before, 1 - late);
      x.week(1);
      due.is("SEEN in WEEK 103 if it doesn't end in it", x.seen(0) - then, late);
    }
  }

  private static void promise() {
    due.term(6, "PROMISE of a SECTION: 10 times its SOIL, and the mean, cut, of its ZONE's RAIN in all SEEN YEARS, by 10, cut"
        + " (0 without).");
    SettlerColony x = new SettlerColony();
    x.rains(0, 500, 300);
    x.land(0, 0, false);
    x.land(1, 9, true);
    x.week(104);
    due.is("SOIL 0, without", x.promise(0), 0);
    due.is("SOIL 9, without", x.promise(1), 90);
    int[][] rains = {{0, 0, 0}, {0, 9, 0}, {0, 10, 1}, {500, 500, 2600}, {10, 19, 52}, {10, 20, 53}};
    for (int[] rain : rains) {
      SettlerColony y = new SettlerColony();
      y.rains(0, rain[0], 51);
      y.rain(0, rain[1]);
      y.land(0, 0, false);
      y.party(9);
      y.queue(0, 0);
      y.people(1, 0, 20);
      y.order(0);
      y.ship(0, 0, 0, 0);
      y.week(36);
      y.squat(0, 0);
      y.week(16);
      due.is("51 times " + rain[0] + " and " + rain[1], y.promise(0), rain[2]);
    }
    due.says(7, "PROMISE of a SECTION.");
    for (int s : NO_SECTIONS) due.index("SECTION " + s, () -> x.promise(s));
  }

  // ---- promises 8 and 9 ----

  private static void section() {
    SettlerColony x = Colony.busy();
    due.says(8, "0 HOLDING, 1 its PERSON (NONE), 2 the WEEK at which it ENDS (NONE), 3 STOCK (NONE: no PASTURE), 4 a FENCE"
        + " (1, 0; NONE: no PASTURE), 5 what was paid for it (NONE: no FARM), 6 miles that are wanted still (0: not WILD).");
    int[][] want = {{3, 0, -1, -1, -1, 20, 0}, {5, 0, -1, -1, -1, 20, 0}, {4, 1, 87, 0, 0, -1, 0}, {6, 2, -1, 3, 0, -1, 0},
        {1, -1, -1, -1, -1, -1, 0}};
    for (int s = 0; s < want.length; s++) {
      for (int what = 0; what < 7; what++) due.is("section(" + s + ", " + what + ")", x.section(s, what), want[s][what]);
    }
    int[] wild = {0, -1, -1, -1, -1, -1, 7};
    for (int what = 0; what < 7; what++) due.is("section(94, " + what + ")", x.section(94, what), wild[what]);
    due.says(8, "IllegalArgumentException: another what.");
    for (int what : new int[] {-1, 7, Integer.MIN_VALUE, Integer.MAX_VALUE}) {
      due.argument("what " + what, () -> x.section(0, what));
      due.index("SECTION 96 and what " + what, () -> x.section(96, what));
    }
    for (int s : NO_SECTIONS) due.index("SECTION " + s, () -> x.section(s, 0));
    due.term(2, "each may have STOCK (0 at first), a FENCE or none (none at first)");
    due.is("STOCK of a RUN", x.section(2, 3), 0);
    due.is("FENCE of a RUN", x.section(2, 4), 0);
    x.squat(3, 4);
    due.is("STOCK of a SQUAT", x.section(4, 3), 0);
    due.is("FENCE of a SQUAT", x.section(4, 4), 0);
  }

  private static void is() {
    SettlerColony x = Colony.busy();
    due.says(9, "0 LOT, or what is above it (all but WILD), 1 FARM, 2 PASTURE, 3 of a PERSON.");
    boolean[][] want = {{true, true, false, true}, {true, true, false, true}, {true, false, true, true}, {true, false, true, true},
        {true, false, false, false}};
    for (int s = 0; s < want.length; s++) {
      for (int what = 0; what < 4; what++) due.is("is(" + s + ", " + what + ")", x.is(s, what), want[s][what]);
    }
    for (int what = 0; what < 4; what++) due.is("WILD", x.is(8, what), false);
    due.says(9, "IllegalArgumentException: another what.");
    for (int what : new int[] {-1, 4, Integer.MIN_VALUE, Integer.MAX_VALUE}) {
      due.argument("what " + what, () -> x.is(0, what));
      due.index("SECTION 96 and what " + what, () -> x.is(96, what));
    }
    for (int s : NO_SECTIONS) due.index("SECTION " + s, () -> x.is(s, 0));
  }

  // ---- promises 12 to 15, terms 4 ----

  private static void party() {
    due.says(12, "A PARTY: its number; -1: there are 4. IllegalArgumentException: PACE.");
    SettlerColony x = new SettlerColony();
    for (int p = 0; p < 4; p++) due.is("PARTY", x.party(p % 2 == 0 ? 1 : 9), p);
    due.is("a fifth", x.party(5), -1);
    for (int pace : new int[] {0, 10, -1, Integer.MIN_VALUE, Integer.MAX_VALUE}) {
      twins.argument("PACE " + pace, y -> y.party(pace));
      due.argument("PACE " + pace + " of a fifth", () -> x.party(pace));
    }
    new Twins(due, EdgeLandTest::fourParties).refused("a fifth", -1, y -> y.party(5));
    due.term(4, "a PACE (1 to 9), where one is (SECTION 0 at first), a QUEUE of up to 12 SECTIONS.");
    due.is("where", x.where(3, 0), 0);
    due.is("QUEUE", x.where(3, 1), 0);
  }

  private static SettlerColony fourParties() {
    SettlerColony x = Colony.busy();
    for (int p = 1; p < 4; p++) x.party(p);
    return x;
  }

  private static SettlerColony fullQueue() {
    SettlerColony x = Colony.busy();
    for (int k = 1; k < 12; k++) x.queue(0, 95);
    return x;
  }

  private static void queue() {
    due.says(13, "how many there are; -1: there are 12; -2: it is not WILD (the first of these).");
    SettlerColony x = new SettlerColony();
    x.party(1);
    for (int k = 1; k <= 12; k++) due.is("SECTION " + k, x.queue(0, 95), k);
    due.is("a 13th", x.queue(0, 94), -1);
    x.party(1);
    due.is("another PARTY's QUEUE", x.queue(1, 95), 1);
    Twins full = new Twins(due, EdgeLandTest::fullQueue);
    full.refused("a 13th", -1, y -> y.queue(0, 94));
    full.refused("a 13th that is not WILD", -1, y -> y.queue(0, 7));
    String[] holdings = {"COUNTRY", "ORDER", "RUN", "SQUAT", "LOT"};
    for (int s = 0; s < 5; s++) {
      int section = s;
      twins.refused("a " + holdings[s], -2, y -> y.queue(0, section));
    }
    due.says(13, "IndexOutOfBoundsException: no such PARTY (so below), SECTION.");
    for (int p : new int[] {-1, 1, 4, Integer.MIN_VALUE, Integer.MAX_VALUE}) {
      twins.index("PARTY " + p, y -> y.queue(p, 90));
      full.index("PARTY " + p + " and SECTION 96", y -> y.queue(p, 96));
    }
    for (int s : NO_SECTIONS) full.index("SECTION " + s + ", full", y -> y.queue(0, s));
  }

  private static void where() {
    due.says(14, "0 where it is, 1 how many are in its QUEUE, 2 the first of these (NONE).");
    SettlerColony x = new SettlerColony();
    x.party(1);
    due.is("0 at first", x.where(0, 0), 0);
    due.is("none", x.where(0, 1), 0);
    due.is("no first", x.where(0, 2), -1);
    x.queue(0, 95);
    x.queue(0, 0);
    due.is("two", x.where(0, 1), 2);
    due.is("the first", x.where(0, 2), 95);
    x.week(18);
    due.is("there", x.where(0, 0), 95);
    due.is("both still", x.where(0, 1), 2);
    due.says(14, "IllegalArgumentException: another what.");
    for (int what : new int[] {-1, 3, Integer.MIN_VALUE, Integer.MAX_VALUE}) {
      due.argument("what " + what, () -> x.where(0, what));
      due.index("PARTY 1 and what " + what, () -> x.where(1, what));
    }
    for (int p : new int[] {-1, 1, 4, Integer.MIN_VALUE, Integer.MAX_VALUE}) due.index("PARTY " + p, () -> x.where(p, 0));
  }

  private static void lot() {
    due.says(15, "0: it is not WILD; NONE: never.");
    SettlerColony x = Colony.busy();
    for (int s = 0; s < 8; s++) due.is("SECTION " + s, x.lot(s), 0);
    due.is("in no QUEUE", x.lot(94), -1);
    due.is("no PARTY", new SettlerColony().lot(95), -1);
    due.is("in a QUEUE", x.lot(95) > 0, true);
    for (int s : NO_SECTIONS) due.index("SECTION " + s, () -> x.lot(s));
    due.says(15, "How many WEEKS go by till a SECTION is a LOT, if nothing is told any more");
    SettlerColony y = new SettlerColony();
    y.party(9);
    y.queue(0, 60);
    int weeks = y.lot(60);
    due.is("5 and 7 miles", weeks, 2);
    y.week(weeks - 1);
    due.is("one is left", y.lot(60), 1);
    due.is("WILD still", y.section(60, 0), 0);
    y.week(1);
    due.is("a LOT", y.section(60, 0), 1);
    due.is("none is left", y.lot(60), 0);
    twins.refused("lot of what is WILD", Colony.busy().lot(95), z -> z.lot(95));
    for (int k = 0; k < 9; k++) y.week(104);
    y.week(62);
    y.queue(0, 60 + 12);
    due.is("WEEK", y.count(0), 1000);
    due.is("1 and 7 miles", y.lot(72), 1);
  }

  private static void lotOfMiles() {
    due.term(4, "a SECTION wants 6 miles, 3 more with WATER, and (9 less SOIL) by 3, cut, more, of all PARTIES together; with the"
        + " last one it is a LOT.");
    int[] miles = {9, 8, 8, 8, 7, 7, 7, 6, 6, 6};
    for (int soil = 0; soil < 10; soil++) {
      for (int water = 0; water < 2; water++) {
        SettlerColony x = new SettlerColony();
        x.land(0, soil, water == 1);
        int want = miles[soil] + 3 * water;
        due.is("SOIL " + soil + ", WATER " + water, x.section(0, 6), want);
        x.party(1);
        x.queue(0, 0);
        due.is("a mile a WEEK", x.lot(0), want);
        x.week(want - 1);
        due.is("a mile is wanted", x.section(0, 6), 1);
        due.is("WILD", x.section(0, 0), 0);
        x.week(1);
        due.is("none is wanted", x.section(0, 6), 0);
        due.is("a LOT", x.section(0, 0), 1);
      }
    }
    SettlerColony x = new SettlerColony();
    x.land(0, 0, true);
    for (int p = 0; p < 4; p++) {
      x.party(3);
      x.queue(p, 0);
    }
    due.is("four PARTIES do 12 miles at once", x.lot(0), 1);
    x.land(0, 0, false);
    x.week(1);
    due.is("a LOT", x.section(0, 0), 1);
  }

  private static void miles() {
    due.term(4, "In a WEEK a PARTY has PACE miles: it goes to the first of its QUEUE, first along x, then along y, a mile for each"
        + " SECTION, then works there");
    SettlerColony x = new SettlerColony();
    x.party(1);
    x.queue(0, 26);
    int[] way = {1, 2, 14, 26, 26};
    for (int at : way) {
      x.week(1);
      due.is("on its way to 26", x.where(0, 0), at);
    }
    due.is("one mile is done", x.section(26, 6), 6);
    x.week(6);
    due.is("a LOT", x.section(26, 0), 1);
    x.queue(0, 0);
    int[] back = {25, 24, 12, 0, 0};
    for (int at : back) {
      x.week(1);
      due.is("on its way back", x.where(0, 0), at);
    }
    due.is("one mile is done", x.section(0, 6), 6);
    SettlerColony far = new SettlerColony();
    far.party(1);
    far.queue(0, 11);
    far.queue(0, 12);
    due.is("11 miles and 7", far.lot(11), 18);
    due.is("12 miles more and 7: 12 is not beside 11", far.lot(12), 37);
    due.term(4, "What is left of the miles goes on with the next one of the QUEUE.");
    SettlerColony y = new SettlerColony();
    y.party(9);
    y.queue(0, 0);
    y.queue(0, 1);
    y.week(1);
    due.is("7 miles there, one on its way, one here", y.section(1, 6), 6);
    SettlerColony z = new SettlerColony();
    z.party(8);
    z.queue(0, 0);
    z.queue(0, 1);
    z.week(1);
    due.is("it is there, with no mile left", z.where(0, 0), 1);
    due.is("nothing is done", z.section(1, 6), 7);
  }

  private static void outOfTheQueue() {
    due.term(4, "Whenever, in a PARTY's turn, the first of its QUEUE isn't WILD (also, as it is done just then), it is out of the"
        + " QUEUE, with miles left or not.");
    SettlerColony x = new SettlerColony();
    x.party(7);
    x.queue(0, 0);
    x.queue(0, 0);
    x.queue(0, 1);
    x.week(1);
    due.is("done with the last mile, both times out", x.where(0, 1), 1);
    due.is("it did not go on", x.where(0, 0), 0);
    SettlerColony y = new SettlerColony();
    y.party(7);
    y.party(1);
    y.queue(0, 0);
    y.queue(1, 0);
    y.queue(1, 0);
    y.queue(1, 1);
    y.week(1);
    due.is("done by another one: out, both times", y.where(1, 1), 1);
    due.is("and its mile goes on with the next", y.where(1, 0), 1);
    SettlerColony z = new SettlerColony();
    z.party(3);
    z.party(4);
    for (int k = 0; k < 12; k++) z.queue(0, 0);
    z.queue(1, 0);
    z.week(1);
    due.is("done by a later one", z.section(0, 0), 1);
    due.is("not its turn any more: all 12 are there", z.where(0, 1), 12);
    due.is("also the first", z.where(0, 2), 0);
    z.week(1);
    due.is("all 12 are out in one turn", z.where(0, 1), 0);
    due.is("no first", z.where(0, 2), -1);
  }

  private static void partiesByNumber() {
    due.term(4, "PARTIES go one after the other.");
    SettlerColony x = new SettlerColony();
    x.party(7);
    x.party(2);
    x.queue(0, 0);
    x.queue(1, 0);
    x.queue(1, 1);
    x.week(1);
    due.is("the first one has done all", x.where(0, 1), 0);
    due.is("the second one goes on", x.where(1, 0), 1);
    due.is("and works", x.section(1, 6), 6);
    SettlerColony y = new SettlerColony();
    y.party(2);
    y.party(7);
    y.queue(0, 0);
    y.queue(0, 1);
    y.queue(1, 0);
    y.week(1);
    due.is("the first one has worked ahead", y.where(0, 0), 0);
    due.is("the second one did the rest", y.section(0, 0), 1);
    due.is("two miles of it are left for nothing", y.where(1, 1), 0);
  }
}
