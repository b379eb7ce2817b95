import java.util.Arrays;

/** A colony of settlers on an empty coast, week by week. ../shared/DOC.md says what each call promises. */
public final class SettlerColony {
  public static final int NONE = -1;

  private static final int LAST_WEEK = 1000;
  private static final int MOST_WEEKS = 104;
  private static final int YEAR = 52;
  private static final int SEA = 34;
  private static final int UNKNOWN = -2000000000;

  private static final int SECTIONS = 96;
  private static final int WIDE = 12;
  private static final int ZONES = 4;
  private static final int MOST_RAIN = 500;
  private static final int UNTOLD_RAIN = 10;

  private static final int WILD = 0;
  private static final int LOT = 1;
  private static final int COUNTRY = 3;
  private static final int RUN = 4;
  private static final int ORDER = 5;
  private static final int SQUAT = 6;
  private static final int MOST_STOCK = 1000;

  private static final int PEOPLE = 100;
  private static final int MOST_COINS = 1000000;
  private static final int SMITH = 2;
  private static final int AT_HOME = 0;
  private static final int AT_SEA = 1;
  private static final int FREE = 2;
  private static final int HIRED = 3;
  private static final int OWN = 4;
  private static final int HANDS = 4;

  private static final int PARTIES = 4;
  private static final int QUEUE = 12;
  private static final int ACRES = 12;
  private static final int SHIPS = 20;
  private static final int BILLS = 20;

  private static final int LAWS = 12;
  private static final int TEXT = 300;
  private static final int FED = 20;
  private static final int PROPOSED = 0;
  private static final int FAILED = 1;
  private static final int IN_FORCE = 2;
  private static final int ASSENTED = 3;
  private static final int UNDONE = 4;

  private static final int NAMES = 8;
  private static final int PRICE = 0;
  private static final int SHARE = 1;
  private static final int WAGE = 2;
  private static final int LEASE = 3;
  private static final int FINE = 4;
  private static final int VOTES = 5;
  private static final int CHOICE = 6;
  private static final int LEAVE = 7;
  private static final int[] USUAL = {20, 50, 2, 5, 1, 0, 4, 1};

  private static final int ROW_HERE = 0;
  private static final int ROW_FARMS = 1;
  private static final int ROW_STORE = 2;
  private static final int ROW_TREASURY = 3;
  private static final int ROW_HUNGRY = 4;
  private static final int ROW_SALES = 5;
  private static final int ROW_LAWS = 6;

  private static final int STEP = 13;
  private static final int THREE = 3;

  private final Almanac almanac = new Almanac();
  private final Statute[] book = new Statute[LAWS];
  private final World now = new World(almanac, book);
  // The one world in which everything that is only tried goes on; it is filled anew each time.
  private final World other = new World(almanac, book);
  private final Town town = new Town();
  private final Reader reader = new Reader();
  private final Picture picture = new Picture();
  private final int[] tape = new int[TEXT];
  private int taped;
  private int faultPlace = NONE;
  private int ships;
  private int orderCoins;
  private int shipCoins;
  private final int[] planPrices = new int[THREE];
  private boolean pricesTold;
  private final int[] planRains = new int[THREE];
  private int planRainsTold;
  private final int[] plan = new int[4];

  public SettlerColony() {
  }

  // ---- land ----

  public int land(int section, int soil, boolean water) throws IndexOutOfBoundsException, IllegalArgumentException {
    needSection(section);
    needThat(soil >= 0 && soil <= 9);
    return now.ground.shape(section, soil, water) ? 1 : -1;
  }

  public int rain(int zone, int rain) throws IndexOutOfBoundsException, IllegalArgumentException {
    needZone(zone);
    needThat(rain >= NONE && rain <= MOST_RAIN);
    return almanac.tell(zone, rain, 1);
  }

  public int rains(int zone, int rain, int weeks) throws IndexOutOfBoundsException, IllegalArgumentException {
    needZone(zone);
    needThat(rain >= 0 && rain <= MOST_RAIN && weeks >= 1 && weeks <= LAST_WEEK);
    return almanac.tell(zone, rain, weeks);
  }

  public int fell(int zone, int week) throws IndexOutOfBoundsException, IllegalArgumentException {
    needZone(zone);
    needThat(week >= 0 && week <= LAST_WEEK);
    return almanac.rainAt(zone, week);
  }

  public int seen(int zone) throws IndexOutOfBoundsException {
    needZone(zone);
    return now.ground.yearsSeen(zone);
  }

  public int promise(int section) throws IndexOutOfBoundsException {
    needSection(section);
    return now.ground.promised(section);
  }

  public int section(int section, int what) throws IndexOutOfBoundsException, IllegalArgumentException {
    needSection(section);
    needThat(what >= 0 && what <= 6);
    return now.ground.fact(section, what);
  }

  public boolean is(int section, int what) throws IndexOutOfBoundsException, IllegalArgumentException {
    needSection(section);
    needThat(what >= 0 && what <= 3);
    switch (what) {
      case 0: return !now.ground.isWild(section);
      case 1: return now.ground.isFarm(section);
      case 2: return now.ground.isPasture(section);
      default: return now.ground.isHeld(section);
    }
  }

  // ---- people ----

  public int people(int many, int trade, int coins) throws IllegalArgumentException {
    needThat(trade >= 0 && trade <= 3 && coins >= 0 && coins <= MOST_COINS);
    int first = now.folk.size;
    if (many > PEOPLE - first) return -1;
    if (many < 0) return -2;
    now.folk.add(many, trade, coins, NONE);
    return first;
  }

  public int person(int person, int what) throws IndexOutOfBoundsException, IllegalArgumentException {
    needPerson(person);
    needThat(what >= 0 && what <= 8);
    return now.folk.fact(person, what);
  }

  // ---- survey ----

  public int party(int pace) throws IllegalArgumentException {
    needThat(pace >= 1 && pace <= 9);
    return now.parties.add(pace);
  }

  public int queue(int party, int section) throws IndexOutOfBoundsException {
    needParty(party);
    needSection(section);
    if (now.parties.queued(party) >= QUEUE) return -1;
    if (!now.ground.isWild(section)) return -2;
    return now.parties.send(party, section);
  }

  public int where(int party, int what) throws IndexOutOfBoundsException, IllegalArgumentException {
    needParty(party);
    needThat(what >= 0 && what <= 2);
    switch (what) {
      case 0: return now.parties.place(party);
      case 1: return now.parties.queued(party);
      default: return now.parties.first(party);
    }
  }

  public int lot(int section) throws IndexOutOfBoundsException {
    needSection(section);
    other.copyFrom(now);
    return other.weeksTillLot(section);
  }

  // ---- town acres ----

  public int ask(int person) throws IndexOutOfBoundsException {
    needPerson(person);
    if (!now.folk.isHere(person)) return -1;
    if (town.has(person) || town.isAsking(person)) return -2;
    return town.hear(person);
  }

  public int draw(int number) throws IllegalArgumentException {
    needThat(number >= 0 && number < town.waysToDraw());
    return town.drawBy(number);
  }

  public int acre(int acre) throws IndexOutOfBoundsException {
    if (!inside(acre, ACRES)) throw new IndexOutOfBoundsException();
    return town.ownerOf(acre);
  }

  // ---- sales, orders, pastures ----

  public int buy(int person, int section) throws IndexOutOfBoundsException {
    needPerson(person);
    needSection(section);
    if (!now.folk.isHere(person)) return -1;
    if (!now.ground.isLot(section)) return -2;
    int price = now.priceOf(section);
    if (!now.folk.canPay(person, price)) return -3;
    now.sell(person, section, price);
    return price;
  }

  public int order(int person) throws IndexOutOfBoundsException {
    needPerson(person);
    if (!now.folk.isAtHome(person)) return -1;
    if (now.folk.orderOf(person) != NONE) return -2;
    int price = priceAtHome();
    if (!now.folk.canPay(person, price)) return -3;
    orderCoins += price;
    return now.folk.takeOrder(person, price);
  }

  public int choose(int person, int section) throws IndexOutOfBoundsException {
    needPerson(person);
    needSection(section);
    if (!now.folk.mayChooseStill(person)) return -1;
    if (!now.folk.isHere(person)) return -2;
    if (!now.ground.isLot(section)) return -3;
    if (now.folk.mustWait(person, now.week, now.meaning(CHOICE, 0))) return -4;
    now.ground.giveFarm(section, ORDER, person, now.folk.useOrder(person), NONE);
    now.folk.gainFarm(person);
    return 1;
  }

  public int run(int person, int section) throws IndexOutOfBoundsException {
    needPerson(person);
    needSection(section);
    if (!now.folk.isHere(person)) return -1;
    if (!now.ground.isLot(section) && !now.ground.isPastureOf(section, person)) return -2;
    int price = now.meaning(LEASE, 0);
    if (!now.folk.canPay(person, price)) return -3;
    now.folk.spend(person, price);
    now.treasury += price;
    now.ground.lease(section, person, now.week + YEAR);
    return price;
  }

  public int squat(int person, int section) throws IndexOutOfBoundsException {
    needPerson(person);
    needSection(section);
    if (!now.folk.isHere(person)) return -1;
    if (!now.ground.isLot(section)) return -2;
    if (now.meaning(LEAVE, 0) == 0) return -3;
    now.ground.giveSquat(section, person);
    return 1;
  }

  public int stock(int person, int section, int many) throws IndexOutOfBoundsException, IllegalArgumentException {
    needPerson(person);
    needSection(section);
    needThat(many >= 0 && many <= MOST_STOCK);
    if (!now.ground.isPastureOf(section, person)) return -1;
    if (!now.folk.canPay(person, 2 * many)) return -2;
    if (!now.ground.hasRoomFor(section, many)) return -3;
    now.folk.spend(person, 2 * many);
    return now.ground.addStock(section, many);
  }

  public int fence(int person, int section) throws IndexOutOfBoundsException {
    needPerson(person);
    needSection(section);
    if (!now.ground.isPastureOf(section, person)) return -1;
    if (now.ground.isFenced(section)) return -2;
    int price = now.folk.tradeOf(person) == SMITH ? 5 : 15;
    if (!now.folk.canPay(person, price)) return -3;
    now.folk.spend(person, price);
    now.ground.putFence(section);
    return 1;
  }

  // ---- laws ----

  public int feed(int a, int b, int c, int d, int e) {
    if (taped > TEXT - FED) return NONE;
    tapeNumber(a);
    tapeNumber(b);
    tapeNumber(c);
    tapeNumber(d);
    tapeNumber(e);
    return taped;
  }

  public int law(int n) throws IllegalArgumentException {
    needThat(n >= 0 && n <= taped);
    faultPlace = NONE;
    taped = 0;
    if (now.council.size >= LAWS) return -1;
    int fault = reader.read(tape, n);
    if (fault != 0) {
      faultPlace = reader.place;
      return fault - 10;
    }
    return now.council.propose(reader.statute());
  }

  public int fault() {
    return faultPlace;
  }

  public int vote(int law, int person, boolean yes) throws IndexOutOfBoundsException {
    needLaw(law);
    needPerson(person);
    if (now.council.stateOf(law) != PROPOSED) return -1;
    if (!mayVote(person)) return -2;
    if (now.council.hasVoted(law, person)) return -3;
    return now.council.hearVote(law, person, yes);
  }

  public int close(int law) throws IndexOutOfBoundsException {
    needLaw(law);
    if (now.council.stateOf(law) != PROPOSED) return -1;
    return now.council.settle(law, now.meaning(VOTES, 0), now.week);
  }

  public int assent(int law, boolean yes) throws IndexOutOfBoundsException {
    needLaw(law);
    if (now.council.stateOf(law) != IN_FORCE) return -1;
    if (!now.council.isReadAtHome(law, now.week)) return -2;
    if (now.council.isAnswered(law)) return -3;
    return now.council.answer(law, yes, now.week + SEA);
  }

  public int force(int law) throws IndexOutOfBoundsException {
    needLaw(law);
    return now.council.stateOf(law);
  }

  public int means(int name, int section) throws IndexOutOfBoundsException, IllegalArgumentException {
    if (section != NONE) needSection(section);
    needThat(inside(name, NAMES));
    return now.meaning(name, section == NONE ? 0 : now.ground.soilOf(section));
  }

  public int why(int name) throws IllegalArgumentException {
    needThat(inside(name, NAMES));
    return now.council.teller(now.council.mask, name);
  }

  // ---- home ----

  public int quoted() {
    return priceAtHome();
  }

  public int ship(int farmers, int hands, int smiths, int shepherds) {
    if (farmers < 0 || hands < 0 || smiths < 0 || shepherds < 0) return -1;
    if (ships >= SHIPS) return -2;
    long many = (long) farmers + hands + smiths + shepherds;
    if (many > PEOPLE - now.folk.size) return -3;
    long cost = 10 * many;
    if (cost > passagesAtHome()) return -4;
    shipCoins += (int) cost;
    int due = now.week + SEA;
    now.folk.sailOrders(due);
    now.folk.add(farmers, 0, 5, due);
    now.folk.add(hands, 1, 5, due);
    now.folk.add(smiths, 2, 5, due);
    now.folk.add(shepherds, 3, 5, due);
    return ships++;
  }

  public int passages() {
    return passagesAtHome();
  }

  public int fund(int much) throws IllegalArgumentException {
    needThat(much >= 0 && much <= 100000);
    now.bills.fund += much;
    return now.bills.fund;
  }

  public int bill(int sum) throws IllegalArgumentException {
    needThat(sum >= 1 && sum <= 10000);
    int number = now.bills.add(sum, now.week + SEA);
    if (number != -1) now.treasury += sum;
    return number;
  }

  public int pass(int bill) throws IndexOutOfBoundsException {
    needBill(bill);
    return now.bills.handOn(bill);
  }

  public int billed(int bill) throws IndexOutOfBoundsException {
    needBill(bill);
    return now.bills.stateOf(bill);
  }

  // ---- weeks, what was known, what is tried ----

  public int week(int weeks) throws IllegalArgumentException, IllegalStateException {
    needThat(weeks >= 0 && weeks <= MOST_WEEKS);
    needWeeks(weeks);
    for (int i = 0; i < weeks; i++) {
      now.goOn();
      almanac.write(now);
    }
    return now.week;
  }

  public int as(int week, int place, int what) throws IllegalArgumentException {
    needThat((place == 0 || place == 1) && what >= 0 && what <= 5);
    int latest = place == 0 ? now.week - 1 : now.week - SEA;
    if (week < 0 || week > latest) return UNKNOWN;
    return almanac.rowOf(week, what);
  }

  public int tried(int price, int share, int weeks, int what) throws IllegalArgumentException, IllegalStateException {
    needThat(price >= 0 && price <= 1000 && share >= NONE && share <= 100);
    needThat(weeks >= 1 && weeks <= MOST_WEEKS && what >= 0 && what <= 5);
    needWeeks(weeks);
    other.copyFrom(now);
    other.toldPrice = price;
    other.toldShare = share;
    for (int i = 0; i < weeks; i++) other.goOn();
    switch (what) {
      case 0: return other.ground.farms;
      case 1: return other.folk.hungry;
      case 2: return other.treasury;
      case 3: return other.store;
      case 4: return other.folk.allHired();
      default: return other.folk.here;
    }
  }

  public void prices(int a, int b, int c) throws IllegalArgumentException {
    needThat(isPrice(a) && isPrice(b) && isPrice(c));
    putThree(planPrices, a, b, c);
    pricesTold = true;
  }

  public void worst(int many, int a, int b, int c) throws IllegalArgumentException {
    needThat(many >= 1 && many <= THREE && isRain(a) && isRain(b) && isRain(c));
    putThree(planRains, a, b, c);
    planRainsTold = many;
  }

  public int planned(int steps, int what) throws IllegalArgumentException, IllegalStateException {
    needThat((steps == 1 || steps == 2) && what >= 0 && what <= 3);
    needWeeks(steps * STEP);
    if (!pricesTold || planRainsTold == 0) return NONE;
    int rows = steps == 2 ? THREE * THREE : THREE;
    for (int row = 0; row < rows; row++) tryRow(steps, row);
    return inside(what, plan.length) ? plan[what] : NONE;
  }

  // ---- the image ----

  public int image() {
    return picture.take(now.ground, now.folk);
  }

  public int number(int k) {
    return picture.at(k);
  }

  public int tear(int k, int mask) {
    return picture.alter(k, mask);
  }

  public int check() {
    return picture.verdict();
  }

  public int count(int what) {
    switch (what) {
      case 0: return now.week;
      case 1: return now.folk.size;
      case 2: return now.folk.here;
      case 3: return now.ground.farms;
      case 4: return now.store;
      case 5: return now.treasury;
      case 6: return now.folk.hungry;
      case 7: return now.council.size;
      case 8: return ships;
      case 9: return now.bills.size;
      case 10: return now.parties.size;
      case 11: return now.folk.orders;
      case 12: return now.bills.fund;
      case 13: return taped;
      case 14: return town.drawn;
      default: return NONE;
    }
  }

  // ---- what calls refuse ----

  private static boolean inside(int k, int many) {
    return k >= 0 && k < many;
  }

  private static void needThat(boolean right) {
    if (!right) throw new IllegalArgumentException();
  }

  private static void needSection(int section) {
    if (!inside(section, SECTIONS)) throw new IndexOutOfBoundsException();
  }

  private static void needZone(int zone) {
    if (!inside(zone, ZONES)) throw new IndexOutOfBoundsException();
  }

  private void needPerson(int person) {
    if (!inside(person, now.folk.size)) throw new IndexOutOfBoundsException();
  }

  private void needParty(int party) {
    if (!inside(party, now.parties.size)) throw new IndexOutOfBoundsException();
  }

  private void needLaw(int law) {
    if (!inside(law, now.council.size)) throw new IndexOutOfBoundsException();
  }

  private void needBill(int bill) {
    if (!inside(bill, now.bills.size)) throw new IndexOutOfBoundsException();
  }

  private void needWeeks(int weeks) {
    if (now.week + weeks > LAST_WEEK) throw new IllegalStateException();
  }

  private static boolean isPrice(int price) {
    return price >= 1 && price <= 1000;
  }

  private static boolean isRain(int rain) {
    return rain >= 0 && rain <= MOST_RAIN;
  }

  // ---- what the face needs ----

  private static void putThree(int[] into, int a, int b, int c) {
    if (into.length < THREE) return;
    into[0] = a;
    into[1] = b;
    into[2] = c;
  }

  private void tapeNumber(int number) {
    for (int shift = 24; shift >= 0; shift -= 8) {
      if (!inside(taped, tape.length)) return;
      tape[taped] = number >>> shift & 255;
      taped++;
    }
  }

  private boolean mayVote(int person) {
    return now.folk.isHere(person) && (now.folk.farmsOf(person) > 0 || town.has(person));
  }

  private int priceAtHome() {
    int then = now.week - SEA;
    if (then < 0) return USUAL[PRICE];
    return now.council.meaning(almanac.rowOf(then, ROW_LAWS), PRICE, then,
        almanac.rowOf(then, ROW_FARMS), almanac.rowOf(then, ROW_HERE), 0);
  }

  private int passagesAtHome() {
    int then = now.week - SEA;
    int sales = then < 0 ? 0 : almanac.rowOf(then, ROW_SALES);
    return sales + orderCoins - shipCoins;
  }

  /** Lives a row of prices through all told RAINS, and keeps it if it is the first or better than what is kept. */
  private void tryRow(int steps, int row) {
    int first = steps == 2 ? row / THREE : row;
    int second = row % THREE;
    int hungry = 0;
    int farms = SECTIONS;
    for (int k = 0; k < planRainsTold && k < THREE; k++) {
      other.copyFrom(now);
      other.toldRain = planRains[k];
      for (int week = 0; week < steps * STEP; week++) {
        other.toldPrice = planPriceOf(week < STEP ? first : second);
        other.goOn();
      }
      hungry = Math.max(hungry, other.folk.hungry);
      farms = Math.min(farms, other.ground.farms);
    }
    boolean better = hungry < plan[2] || hungry == plan[2] && farms > plan[3];
    if (row > 0 && !better) return;
    plan[0] = first;
    plan[1] = steps == 2 ? second : NONE;
    plan[2] = hungry;
    plan[3] = farms;
  }

  private int planPriceOf(int which) {
    return inside(which, planPrices.length) ? planPrices[which] : 0;
  }

  private static int zoneOf(int section) {
    return section % WIDE / 3;
  }

  /** The RAIN that is told ahead, and the rows that are written behind, WEEK by WEEK. */
  private static final class Almanac {
    final int[][] told = new int[ZONES][LAST_WEEK];
    final int[] weeks = new int[ZONES];
    final int[][] written = new int[ROW_LAWS + 1][LAST_WEEK];

    int tell(int zone, int rain, int many) {
      if (!inside(zone, ZONES) || many < 0 || many > LAST_WEEK - weeks[zone]) return -1;
      for (int i = 0; i < many && inside(weeks[zone], LAST_WEEK); i++) {
        told[zone][weeks[zone]] = rain;
        weeks[zone]++;
      }
      return weeks[zone];
    }

    int rainAt(int zone, int week) {
      if (!isTold(zone, week)) return UNTOLD_RAIN;
      if (told[zone][week] != NONE) return told[zone][week];
      boolean low = isNumber(zone - 1, week);
      boolean high = isNumber(zone + 1, week);
      if (low && high) return (told[zone - 1][week] + told[zone + 1][week]) / 2;
      if (low) return told[zone - 1][week];
      return high ? told[zone + 1][week] : 0;
    }

    private boolean isTold(int zone, int week) {
      return inside(zone, ZONES) && inside(week, LAST_WEEK) && week < weeks[zone];
    }

    private boolean isNumber(int zone, int week) {
      return isTold(zone, week) && told[zone][week] != NONE;
    }

    void write(World world) {
      if (world == null || !inside(world.week - 1, LAST_WEEK)) return;
      int row = world.week - 1;
      written[ROW_HERE][row] = world.folk.here;
      written[ROW_FARMS][row] = world.ground.farms;
      written[ROW_STORE][row] = world.store;
      written[ROW_TREASURY][row] = world.treasury;
      written[ROW_HUNGRY][row] = world.folk.hungry;
      written[ROW_SALES][row] = world.sales;
      written[ROW_LAWS][row] = world.council.mask;
    }

    int rowOf(int week, int what) {
      return inside(what, ROW_LAWS + 1) && inside(week, LAST_WEEK) ? written[what][week] : 0;
    }
  }

  /** The SECTIONS: what each is like, what it is held as and by whom; and the RAIN that their ZONES had. */
  private static final class Ground {
    final int[] soil = new int[SECTIONS];
    final int[] wanted = new int[SECTIONS];
    final int[] holding = new int[SECTIONS];
    final int[] owner = new int[SECTIONS];
    final int[] ends = new int[SECTIONS];
    final int[] stock = new int[SECTIONS];
    final boolean[] fenced = new boolean[SECTIONS];
    final int[] paid = new int[SECTIONS];
    final int[] teller = new int[SECTIONS];
    int farms;
    final int[] yearRain = new int[ZONES];
    final int[] seenYears = new int[ZONES];
    final int[] seenRain = new int[ZONES];

    Ground() {
      Arrays.fill(soil, 5);
      Arrays.fill(wanted, 7);
      Arrays.fill(owner, NONE);
      Arrays.fill(ends, NONE);
      Arrays.fill(paid, NONE);
      Arrays.fill(teller, NONE);
    }

    void copyFrom(Ground from) {
      if (from == null) return;
      System.arraycopy(from.soil, 0, soil, 0, SECTIONS);
      System.arraycopy(from.wanted, 0, wanted, 0, SECTIONS);
      System.arraycopy(from.holding, 0, holding, 0, SECTIONS);
      System.arraycopy(from.owner, 0, owner, 0, SECTIONS);
      System.arraycopy(from.ends, 0, ends, 0, SECTIONS);
      System.arraycopy(from.stock, 0, stock, 0, SECTIONS);
      System.arraycopy(from.paid, 0, paid, 0, SECTIONS);
      System.arraycopy(from.teller, 0, teller, 0, SECTIONS);
      for (int s = 0; s < SECTIONS; s++) fenced[s] = from.fenced[s];
      farms = from.farms;
      System.arraycopy(from.yearRain, 0, yearRain, 0, ZONES);
      System.arraycopy(from.seenYears, 0, seenYears, 0, ZONES);
      System.arraycopy(from.seenRain, 0, seenRain, 0, ZONES);
    }

    boolean shape(int s, int howGood, boolean wet) {
      if (!isWild(s)) return false;
      soil[s] = howGood;
      wanted[s] = 6 + (wet ? 3 : 0) + (9 - howGood) / 3;
      return true;
    }

    int holdingOf(int s) {
      return inside(s, SECTIONS) ? holding[s] : NONE;
    }

    int soilOf(int s) {
      return inside(s, SECTIONS) ? soil[s] : 0;
    }

    int ownerOf(int s) {
      return inside(s, SECTIONS) ? owner[s] : NONE;
    }

    int stockOf(int s) {
      return inside(s, SECTIONS) ? stock[s] : 0;
    }

    int paidFor(int s) {
      return inside(s, SECTIONS) ? paid[s] : NONE;
    }

    boolean isWild(int s) {
      return inside(s, SECTIONS) && holding[s] == WILD;
    }

    boolean isLot(int s) {
      return inside(s, SECTIONS) && holding[s] == LOT;
    }

    boolean isFarm(int s) {
      return inside(s, SECTIONS) && (holding[s] == COUNTRY || holding[s] == ORDER);
    }

    boolean isPasture(int s) {
      return inside(s, SECTIONS) && (holding[s] == RUN || holding[s] == SQUAT);
    }

    boolean isHeld(int s) {
      return isFarm(s) || isPasture(s);
    }

    boolean isPastureOf(int s, int person) {
      return isPasture(s) && ownerOf(s) == person;
    }

    boolean isFenced(int s) {
      return inside(s, SECTIONS) && fenced[s];
    }

    boolean isBoughtBy(int s, int law) {
      return inside(s, SECTIONS) && holding[s] == COUNTRY && teller[s] == law;
    }

    int fact(int s, int what) {
      if (!inside(s, SECTIONS)) return NONE;
      switch (what) {
        case 0: return holding[s];
        case 1: return owner[s];
        case 2: return ends[s];
        case 3: return isPasture(s) ? stock[s] : NONE;
        case 4: return isPasture(s) ? (fenced[s] ? 1 : 0) : NONE;
        case 5: return paid[s];
        default: return isWild(s) ? wanted[s] : 0;
      }
    }

    void dig(int s) {
      if (!isWild(s)) return;
      wanted[s]--;
      if (wanted[s] <= 0) open(s);
    }

    /** Makes a SECTION a LOT, whatever it was. */
    void open(int s) {
      if (s < 0 || s >= SECTIONS) return;
      if (holding[s] == COUNTRY || holding[s] == ORDER) farms--;
      holding[s] = LOT;
      owner[s] = NONE;
      ends[s] = NONE;
      stock[s] = 0;
      fenced[s] = false;
      paid[s] = NONE;
      teller[s] = NONE;
    }

    void giveFarm(int s, int kind, int person, int price, int law) {
      if (!inside(s, SECTIONS)) return;
      open(s);
      holding[s] = kind;
      owner[s] = person;
      paid[s] = price;
      teller[s] = law;
      farms++;
    }

    void giveSquat(int s, int person) {
      if (!inside(s, SECTIONS)) return;
      open(s);
      holding[s] = SQUAT;
      owner[s] = person;
    }

    /** Makes a SECTION a RUN; what the PERSON has on it already stays. */
    void lease(int s, int person, int end) {
      if (!inside(s, SECTIONS)) return;
      if (!isPastureOf(s, person)) open(s);
      holding[s] = RUN;
      owner[s] = person;
      ends[s] = end;
    }

    boolean hasRoomFor(int s, int many) {
      return stockOf(s) + many <= MOST_STOCK;
    }

    int addStock(int s, int many) {
      if (inside(s, SECTIONS)) stock[s] += many;
      return stockOf(s);
    }

    void putFence(int s) {
      if (inside(s, SECTIONS)) fenced[s] = true;
    }

    boolean isStraying(int s) {
      return isPasture(s) && stock[s] >= 8 && !fenced[s];
    }

    /** The least NEIGHBOUR that is a FARM of another PERSON than the one who holds s. */
    int strangersFarmBeside(int s) {
      if (s >= WIDE && isStrangersFarm(s - WIDE, s)) return s - WIDE;
      if (s % WIDE > 0 && isStrangersFarm(s - 1, s)) return s - 1;
      if (s % WIDE < WIDE - 1 && isStrangersFarm(s + 1, s)) return s + 1;
      return isStrangersFarm(s + WIDE, s) ? s + WIDE : NONE;
    }

    private boolean isStrangersFarm(int s, int from) {
      if (!inside(s, SECTIONS) || !inside(from, SECTIONS)) return false;
      return (holding[s] == COUNTRY || holding[s] == ORDER) && owner[s] != owner[from];
    }

    void endRuns(int week) {
      for (int s = 0; s < SECTIONS; s++) {
        if (holding[s] == RUN && ends[s] == week) open(s);
      }
    }

    void breed() {
      for (int s = 0; s < SECTIONS; s++) {
        if (isPasture(s)) stock[s] = Math.min(MOST_STOCK, stock[s] + stock[s] / 4);
      }
    }

    // ---- ZONES ----

    int yearsSeen(int zone) {
      return inside(zone, ZONES) ? seenYears[zone] : 0;
    }

    void wet(int zone, int rain) {
      if (inside(zone, ZONES)) yearRain[zone] += rain;
    }

    void seeZones() {
      for (int zone = 0; zone < ZONES; zone++) {
        if (isLivedIn(zone)) {
          seenYears[zone]++;
          seenRain[zone] += yearRain[zone];
        }
      }
    }

    private boolean isLivedIn(int zone) {
      for (int s = 0; s < SECTIONS; s++) {
        if (zoneOf(s) == zone && owner[s] != NONE) return true;
      }
      return false;
    }

    int promised(int s) {
      if (!inside(s, SECTIONS)) return 0;
      int zone = zoneOf(s);
      if (!inside(zone, ZONES) || seenYears[zone] <= 0) return 10 * soil[s];
      return 10 * soil[s] + seenRain[zone] / seenYears[zone] / 10;
    }

    int findBestLot() {
      int best = NONE;
      int most = NONE;
      for (int s = 0; s < SECTIONS; s++) {
        if (holding[s] == LOT && promised(s) > most) {
          best = s;
          most = promised(s);
        }
      }
      return best;
    }

    int band(int zone) {
      if (!inside(zone, ZONES) || yearRain[zone] < 300) return 0;
      if (yearRain[zone] < 600) return 1;
      if (yearRain[zone] < 900) return 2;
      return yearRain[zone] < 1500 ? 3 : 1;
    }

    void newYear() {
      Arrays.fill(yearRain, 0);
    }
  }

  /** The PEOPLE. */
  private static final class Folk {
    int size;
    int here;
    int hungry;
    int orders;
    final int[] trade = new int[PEOPLE];
    final int[] coins = new int[PEOPLE];
    final int[] state = new int[PEOPLE];
    final int[] boss = new int[PEOPLE];
    final int[] hired = new int[PEOPLE];
    final int[] farms = new int[PEOPLE];
    final int[] ordered = new int[PEOPLE];
    final int[] orderPaid = new int[PEOPLE];
    final boolean[] chosen = new boolean[PEOPLE];
    final int[] hunger = new int[PEOPLE];
    final int[] landing = new int[PEOPLE];

    void copyFrom(Folk from) {
      if (from == null) return;
      size = from.size;
      here = from.here;
      hungry = from.hungry;
      orders = from.orders;
      System.arraycopy(from.trade, 0, trade, 0, PEOPLE);
      System.arraycopy(from.coins, 0, coins, 0, PEOPLE);
      System.arraycopy(from.state, 0, state, 0, PEOPLE);
      System.arraycopy(from.boss, 0, boss, 0, PEOPLE);
      System.arraycopy(from.hired, 0, hired, 0, PEOPLE);
      System.arraycopy(from.farms, 0, farms, 0, PEOPLE);
      System.arraycopy(from.ordered, 0, ordered, 0, PEOPLE);
      System.arraycopy(from.orderPaid, 0, orderPaid, 0, PEOPLE);
      for (int p = 0; p < PEOPLE; p++) chosen[p] = from.chosen[p];
      System.arraycopy(from.hunger, 0, hunger, 0, PEOPLE);
      System.arraycopy(from.landing, 0, landing, 0, PEOPLE);
    }

    /** So many new PEOPLE, at HOME (due NONE) or at SEA till a WEEK. */
    void add(int many, int of, int purse, int due) {
      for (int i = 0; i < many && inside(size, PEOPLE); i++) {
        trade[size] = of;
        coins[size] = purse;
        state[size] = due == NONE ? AT_HOME : AT_SEA;
        boss[size] = NONE;
        ordered[size] = NONE;
        landing[size] = due;
        size++;
      }
    }

    boolean isOne(int p) {
      return p >= 0 && p < size && p < PEOPLE;
    }

    int stateOf(int p) {
      return isOne(p) ? state[p] : AT_HOME;
    }

    boolean isAtHome(int p) {
      return isOne(p) && state[p] == AT_HOME;
    }

    boolean isHere(int p) {
      return isOne(p) && state[p] >= FREE;
    }

    int tradeOf(int p) {
      return isOne(p) ? trade[p] : NONE;
    }

    int farmsOf(int p) {
      return isOne(p) ? farms[p] : 0;
    }

    int handsOf(int p) {
      return isOne(p) ? hired[p] : 0;
    }

    int orderOf(int p) {
      return isOne(p) ? ordered[p] : NONE;
    }

    int coinsOf(int p) {
      return isOne(p) ? coins[p] : 0;
    }

    int fact(int p, int what) {
      if (!isOne(p)) return NONE;
      switch (what) {
        case 0: return trade[p];
        case 1: return coins[p];
        case 2: return state[p];
        case 3: return boss[p];
        case 4: return hired[p];
        case 5: return farms[p];
        case 6: return ordered[p];
        case 7: return hunger[p];
        default: return landing[p];
      }
    }

    boolean canPay(int p, int sum) {
      return isOne(p) && coins[p] >= sum;
    }

    void spend(int p, int sum) {
      if (isOne(p)) coins[p] -= sum;
    }

    void earn(int p, int sum) {
      if (isOne(p)) coins[p] = Math.min(MOST_COINS, coins[p] + sum);
    }

    // ---- ORDERS and the SEA ----

    int takeOrder(int p, int price) {
      if (!isOne(p)) return NONE;
      coins[p] -= price;
      ordered[p] = orders;
      orderPaid[p] = price;
      return orders++;
    }

    boolean mayChooseStill(int p) {
      return isOne(p) && ordered[p] != NONE && !chosen[p];
    }

    /** Whether one of a lower number, not chosen, is HERE and has been so for less than so many WEEKS. */
    boolean mustWait(int p, int week, int weeks) {
      for (int q = 0; q < size && q < PEOPLE; q++) {
        boolean ahead = mayChooseStill(q) && ordered[q] < orderOf(p);
        if (ahead && isHere(q) && week - landing[q] < weeks) return true;
      }
      return false;
    }

    /** The ORDER of a PERSON is chosen now: what was paid for it. */
    int useOrder(int p) {
      if (!isOne(p)) return NONE;
      chosen[p] = true;
      return orderPaid[p];
    }

    void sailOrders(int due) {
      for (int p = 0; p < size && p < PEOPLE; p++) {
        if (state[p] == AT_HOME && ordered[p] != NONE) {
          state[p] = AT_SEA;
          landing[p] = due;
        }
      }
    }

    void disembark(int week) {
      for (int p = 0; p < size && p < PEOPLE; p++) {
        if (state[p] == AT_SEA && landing[p] == week) {
          state[p] = FREE;
          here++;
        }
      }
    }

    // ---- FARMS and work ----

    void gainFarm(int p) {
      if (!isOne(p)) return;
      release(p);
      farms[p]++;
      state[p] = OWN;
    }

    void loseFarm(int p) {
      if (!isOne(p)) return;
      farms[p]--;
      if (farms[p] > 0) return;
      state[p] = FREE;
      for (int q = 0; q < size && q < PEOPLE; q++) {
        if (boss[q] == p) release(q);
      }
    }

    /** Who is HIRED is FREE; others stay what they are. */
    void release(int p) {
      if (p < 0 || p >= PEOPLE || state[p] != HIRED) return;
      int master = boss[p];
      if (master >= 0 && master < PEOPLE) hired[master]--;
      boss[p] = NONE;
      state[p] = FREE;
    }

    void hireBy(int p, int master) {
      if (!isOne(p) || !isOne(master)) return;
      hired[master]++;
      boss[p] = master;
      state[p] = HIRED;
    }

    /** Who would hire at that wage: with the fewest hired, then the least number. */
    int findBoss(int wage) {
      int best = NONE;
      int fewest = HANDS;
      for (int p = 0; p < size && p < PEOPLE; p++) {
        if (state[p] == OWN && hired[p] < fewest && coins[p] >= wage) {
          best = p;
          fewest = hired[p];
        }
      }
      return best;
    }

    /** Pays who is HIRED, or sets them FREE if the one who hired has less. */
    void payWage(int p, int wage) {
      if (!isOne(p)) return;
      int master = boss[p];
      if (canPay(master, wage)) {
        spend(master, wage);
        earn(p, wage);
      } else {
        release(p);
      }
    }

    void starve(int p) {
      if (!isOne(p)) return;
      hunger[p]++;
      hungry++;
    }

    int allHired() {
      int many = 0;
      for (int p = 0; p < size && p < PEOPLE; p++) {
        if (state[p] == HIRED) many++;
      }
      return many;
    }
  }

  /** The PARTIES of surveyors and their QUEUES. */
  private static final class Parties {
    int size;
    final int[] pace = new int[PARTIES];
    final int[] at = new int[PARTIES];
    final int[] waiting = new int[PARTIES];
    final int[] sent = new int[PARTIES * QUEUE];

    void copyFrom(Parties from) {
      if (from == null) return;
      size = from.size;
      System.arraycopy(from.pace, 0, pace, 0, PARTIES);
      System.arraycopy(from.at, 0, at, 0, PARTIES);
      System.arraycopy(from.waiting, 0, waiting, 0, PARTIES);
      System.arraycopy(from.sent, 0, sent, 0, PARTIES * QUEUE);
    }

    int add(int miles) {
      if (!inside(size, PARTIES)) return -1;
      pace[size] = miles;
      return size++;
    }

    int send(int p, int section) {
      if (!inside(p, PARTIES) || !inside(waiting[p], QUEUE)) return -1;
      sent[p * QUEUE + waiting[p]] = section;
      waiting[p]++;
      return waiting[p];
    }

    int place(int p) {
      return inside(p, PARTIES) ? at[p] : NONE;
    }

    int queued(int p) {
      return inside(p, PARTIES) ? waiting[p] : 0;
    }

    int first(int p) {
      return inside(p, PARTIES) && waiting[p] > 0 ? sent[p * QUEUE] : NONE;
    }

    boolean idle() {
      for (int p = 0; p < size && p < PARTIES; p++) {
        if (waiting[p] > 0) return false;
      }
      return true;
    }

    void goOut(Ground ground) {
      if (ground == null) return;
      for (int p = 0; p < size && p < PARTIES; p++) {
        for (int left = pace[p]; left >= 0; left--) {
          dropDone(p, ground);
          if (left == 0 || waiting[p] <= 0) break;
          goMile(p, ground);
        }
      }
    }

    private void dropDone(int p, Ground ground) {
      if (!inside(p, PARTIES)) return;
      for (int i = 0; i < QUEUE; i++) {
        if (waiting[p] <= 0 || ground.isWild(first(p))) return;
        System.arraycopy(sent, p * QUEUE + 1, sent, p * QUEUE, QUEUE - 1);
        waiting[p]--;
      }
    }

    private void goMile(int p, Ground ground) {
      if (!inside(p, PARTIES)) return;
      int to = first(p);
      if (at[p] == to) {
        ground.dig(to);
      } else if (at[p] % WIDE != to % WIDE) {
        at[p] += at[p] % WIDE < to % WIDE ? 1 : -1;
      } else {
        at[p] += at[p] < to ? WIDE : -WIDE;
      }
    }
  }

  /** Who asks for TOWN ACRES, and who has them. */
  private static final class Town {
    final int[] owner = new int[ACRES];
    final int[] asking = new int[ACRES];
    int drawn;
    int waiting;

    boolean has(int person) {
      for (int k = 0; k < drawn && k < ACRES; k++) {
        if (owner[k] == person) return true;
      }
      return false;
    }

    boolean isAsking(int person) {
      for (int k = 0; k < waiting && k < ACRES; k++) {
        if (asking[k] == person) return true;
      }
      return false;
    }

    int hear(int person) {
      if (drawn + waiting >= ACRES || !inside(waiting, ACRES)) return -3;
      asking[waiting] = person;
      waiting++;
      return waiting;
    }

    int ownerOf(int acre) {
      return inside(acre, drawn) && inside(acre, ACRES) ? owner[acre] : NONE;
    }

    int waysToDraw() {
      return factorial(waiting);
    }

    private int factorial(int n) {
      int ways = 1;
      for (int k = 2; k <= n && k <= ACRES; k++) ways *= k;
      return ways;
    }

    int drawBy(int number) {
      int many = waiting;
      int rest = number;
      for (int i = 0; i < many; i++) {
        int ways = factorial(waiting - 1);
        if (ways <= 0) return i;
        drawOne(rest / ways);
        rest %= ways;
      }
      return many;
    }

    private void drawOne(int place) {
      if (!inside(place, waiting) || !inside(place, ACRES) || !inside(drawn, ACRES)) return;
      owner[drawn] = asking[place];
      drawn++;
      for (int k = place; k + 1 < waiting && k + 1 < ACRES; k++) asking[k] = asking[k + 1];
      waiting--;
    }
  }

  /** The BILLS on home, and the FUND that pays them. */
  private static final class Bills {
    static final int ON_ITS_WAY = 0;
    static final int PAID = 1;
    static final int ON_ITS_WAY_BACK = 2;
    static final int BACK = 3;
    static final int MOST_HANDS = 5;

    int size;
    int fund;
    final int[] sum = new int[BILLS];
    final int[] hands = new int[BILLS];
    final int[] state = new int[BILLS];
    final int[] due = new int[BILLS];

    void copyFrom(Bills from) {
      if (from == null) return;
      size = from.size;
      fund = from.fund;
      System.arraycopy(from.sum, 0, sum, 0, BILLS);
      System.arraycopy(from.hands, 0, hands, 0, BILLS);
      System.arraycopy(from.state, 0, state, 0, BILLS);
      System.arraycopy(from.due, 0, due, 0, BILLS);
    }

    int add(int much, int seenAt) {
      if (!inside(size, BILLS)) return -1;
      sum[size] = much;
      due[size] = seenAt;
      return size++;
    }

    int stateOf(int b) {
      return inside(b, BILLS) ? state[b] : ON_ITS_WAY;
    }

    int handOn(int b) {
      if (!inside(b, BILLS) || hands[b] >= MOST_HANDS) return -1;
      if (state[b] != ON_ITS_WAY) return -2;
      hands[b]++;
      return hands[b];
    }

    /** Reads what came of each BILL by this WEEK: how much the TREASURY loses. */
    int readDue(int week) {
      int lost = 0;
      for (int b = 0; b < size && b < BILLS; b++) {
        if (due[b] == week && state[b] == ON_ITS_WAY) present(b);
        else if (due[b] == week && state[b] == ON_ITS_WAY_BACK) lost += comeBack(b);
      }
      return lost;
    }

    private void present(int b) {
      if (!inside(b, BILLS)) return;
      if (fund >= sum[b]) {
        fund -= sum[b];
        state[b] = PAID;
      } else {
        state[b] = ON_ITS_WAY_BACK;
        due[b] += SEA;
      }
    }

    private int comeBack(int b) {
      if (!inside(b, BILLS)) return 0;
      state[b] = BACK;
      return sum[b] + sum[b] * 20 / 100 + hands[b];
    }
  }

  /** What a LAW says, as code for a stack: a cell from 0 up is a number, one below is a fact or a sign. */
  private static final class Statute {
    static final int FACTS = 5;
    static final int PLUS = -6;
    static final int MINUS = -7;
    static final int TIMES = -8;
    static final int BY = -9;
    static final int REST = -10;
    static final int LEAST = -11;
    static final int MOST = -12;
    static final int BELOW = -13;
    static final int ABOVE = -14;
    static final int SAME = -15;
    static final int AND = -16;
    static final int OR = -17;
    static final int NOT = -18;
    static final int IF = -19;

    final int[] code;
    final int[] from;
    final int[] end;
    final boolean falls;

    Statute(int[] code, int[] from, int[] end, boolean falls) {
      this.code = code;
      this.from = from;
      this.end = end;
      this.falls = falls;
    }

    boolean tells(int name) {
      return name >= 0 && name < from.length && name < end.length && from[name] != NONE;
    }

    /** The VALUE of what it tells of a NAME, by facts, on a stack that is lent. */
    int value(int name, int[] facts, int[] stack) {
      if (facts == null || stack == null || stack.length == 0) return 0;
      if (name < 0 || name >= from.length || name >= end.length) return 0;
      int top = 0;
      for (int i = from[name]; i < end[name]; i++) {
        if (i < 0 || i >= code.length) return 0;
        int cell = code[i];
        int wants = cell >= -FACTS ? 0 : cell == NOT ? 1 : cell == IF ? 3 : 2;
        int base = top - wants;
        if (base < 0 || base >= stack.length || top > stack.length) return 0;
        if (cell >= 0) stack[base] = cell;
        else if (wants == 0) stack[base] = -1 - cell < facts.length ? facts[-1 - cell] : 0;
        else if (wants == 1) stack[base] = stack[base] == 0 ? 1 : 0;
        else if (wants == 3) stack[base] = stack[base] != 0 ? stack[base + 1] : stack[base + 2];
        else stack[base] = join(cell, stack[base], stack[base + 1]);
        top = base + 1;
      }
      return top == 1 ? stack[0] : 0;
    }

    private static int join(int cell, int a, int b) {
      switch (cell) {
        case PLUS: return a + b;
        case MINUS: return a - b;
        case TIMES: return a * b;
        case BY: return b == 0 ? 0 : a / b;
        case REST: return b == 0 ? 0 : a % b;
        case LEAST: return a < b ? a : b;
        case MOST: return a > b ? a : b;
        case BELOW: return a < b ? 1 : 0;
        case ABOVE: return a > b ? 1 : 0;
        case SAME: return a == b ? 1 : 0;
        case AND: return a != 0 && b != 0 ? 1 : 0;
        default: return a != 0 || b != 0 ? 1 : 0;
      }
    }
  }

  /** Reads the text of a LAW from the left, up to its first FAULT. */
  private static final class Reader {
    // The place of a word here is its number; the NAMES come first, by theirs.
    private static final String WORDS =
        "price share wage run fine votes choice squat undo stand fall week year sold people soil least most if or and not ";
    // A token is a byte (0 to 255), or one of these, or WORD and the number of a word.
    private static final int NUMBER = 300;
    private static final int END = 301;
    private static final int STRANGE = 302;
    private static final int WORD = 400;
    private static final int UNDO = WORD + 8;
    private static final int STAND = WORD + 9;
    private static final int FALL = WORD + 10;
    private static final int WEEK_WORD = WORD + 11;
    private static final int SOIL_WORD = WORD + 15;
    private static final int LEAST_WORD = WORD + 16;
    private static final int MOST_WORD = WORD + 17;
    private static final int IF_WORD = WORD + 18;
    private static final int OR_WORD = WORD + 19;
    private static final int AND_WORD = WORD + 20;
    private static final int NOT_WORD = WORD + 21;
    private static final int MOST_NUMBER = 9999;
    private static final int CLAUSES = 10;
    private static final int OPEN = 8;

    private final int[] tokens = new int[TEXT + 1];
    private final int[] starts = new int[TEXT + 1];
    private final int[] numbers = new int[TEXT + 1];
    private int at;
    private int token;
    private int fault;
    int place;
    private final int[] code = new int[TEXT];
    private int cells;
    private final int[] from = new int[NAMES];
    private final int[] end = new int[NAMES];
    private boolean falls;

    /** Reads the first n bytes: 0, or the FAULT, whose place is kept. */
    int read(int[] text, int n) {
      if (text == null || n < 0 || n > text.length || n > TEXT) return 1;
      split(text, n);
      at = 0;
      token = tokens[0];
      fault = 0;
      place = NONE;
      cells = 0;
      falls = false;
      Arrays.fill(from, NONE);
      Arrays.fill(end, NONE);
      for (int clauses = 0; clauses <= CLAUSES && token != END && fault == 0; clauses++) {
        readClause(clauses);
      }
      return fault;
    }

    Statute statute() {
      int size = cells >= 0 && cells <= code.length ? cells : 0;
      return new Statute(Arrays.copyOf(code, size), from.clone(), end.clone(), falls);
    }

    // ---- tokens ----

    private void split(int[] text, int n) {
      int k = 0;
      int count = 0;
      for (int i = 0; i <= n && inside(count, tokens.length); i++) {
        for (int j = 0; j < n && byteAt(text, n, k) == ' '; j++) k++;
        starts[count] = k;
        numbers[count] = 0;
        int sign = byteAt(text, n, k);
        if (sign == NONE) tokens[count] = END;
        else if (isLetter(sign)) k = takeWord(text, n, k, count);
        else if (isDigit(sign)) k = takeNumber(text, n, k, count);
        else {
          tokens[count] = sign;
          k++;
        }
        if (sign == NONE) return;
        count++;
      }
    }

    private static int byteAt(int[] text, int n, int k) {
      return inside(k, n) && inside(k, text.length) ? text[k] : NONE;
    }

    private static boolean isLetter(int sign) {
      return sign >= 'a' && sign <= 'z';
    }

    private static boolean isDigit(int sign) {
      return sign >= '0' && sign <= '9';
    }

    private int takeNumber(int[] text, int n, int first, int count) {
      if (!inside(count, tokens.length)) return n;
      int k = first;
      int number = 0;
      for (int i = 0; i < n && isDigit(byteAt(text, n, k)); i++) {
        number = Math.min(MOST_NUMBER + 1, number * 10 + byteAt(text, n, k) - '0');
        k++;
      }
      tokens[count] = NUMBER;
      numbers[count] = number;
      return k;
    }

    private int takeWord(int[] text, int n, int first, int count) {
      if (!inside(count, tokens.length)) return n;
      int k = first;
      for (int i = 0; i < n && isLetter(byteAt(text, n, k)); i++) k++;
      tokens[count] = STRANGE;
      int word = 0;
      int begin = 0;
      for (int w = 0; w < WORDS.length(); w++) {
        if (WORDS.charAt(w) == ' ') {
          if (w - begin == k - first && isSpelled(text, n, first, begin, w)) tokens[count] = WORD + word;
          begin = w + 1;
          word++;
        }
      }
      return k;
    }

    private static boolean isSpelled(int[] text, int n, int first, int begin, int behind) {
      for (int w = begin; w < behind && inside(w, WORDS.length()); w++) {
        if (byteAt(text, n, first + w - begin) != WORDS.charAt(w)) return false;
      }
      return true;
    }

    private void goOn() {
      if (fault != 0 || !inside(at + 1, tokens.length)) return;
      at++;
      token = tokens[at];
    }

    /** Keeps the first FAULT; from then on no token is any that is wanted. */
    private void fail(int which) {
      if (fault != 0) return;
      fault = which;
      place = inside(at, starts.length) ? starts[at] : NONE;
      token = STRANGE;
    }

    private void expect(int wanted) {
      if (token == wanted) goOn();
      else fail(1);
    }

    /** Goes over what opens one more of ( [ and not, with so many open already. */
    private void openWith(int wanted, int open) {
      if (token != wanted) fail(1);
      else if (open >= OPEN) fail(3);
      else goOn();
    }

    private void put(int cell) {
      if (fault != 0 || !inside(cells, code.length)) return;
      code[cells] = cell;
      cells++;
    }

    // ---- clauses ----

    private void readClause(int ahead) {
      int name = token - WORD;
      if (token != UNDO && !inside(name, NAMES)) fail(1);
      else if (ahead >= CLAUSES) fail(3);
      else if (token == UNDO) readUndo();
      else readTelling(name);
      expect(';');
    }

    private void readUndo() {
      goOn();
      falls = token == FALL;
      if (token == STAND || token == FALL) goOn();
      else fail(1);
    }

    private void readTelling(int name) {
      goOn();
      expect('=');
      int first = cells;
      readSum(0);
      if (!inside(name, from.length) || !inside(name, end.length)) return;
      from[name] = first;
      end[name] = cells;
    }

    // ---- E, T, U ----

    private void readSum(int open) {
      if (fault != 0 || open > OPEN) return;
      readProduct(open);
      for (int i = 0; i < TEXT && (token == '+' || token == '-'); i++) {
        int sign = token;
        goOn();
        readProduct(open);
        put(sign == '+' ? Statute.PLUS : Statute.MINUS);
      }
    }

    private void readProduct(int open) {
      readUnit(open);
      for (int i = 0; i < TEXT && (token == '*' || token == '/' || token == '%'); i++) {
        int sign = token;
        goOn();
        readUnit(open);
        put(sign == '*' ? Statute.TIMES : sign == '/' ? Statute.BY : Statute.REST);
      }
    }

    private void readUnit(int open) {
      if (token == NUMBER) {
        readNumber();
      } else if (token >= WEEK_WORD && token <= SOIL_WORD) {
        put(WEEK_WORD - token - 1);
        goOn();
      } else if (token == '(') {
        openWith('(', open);
        readSum(open + 1);
        expect(')');
      } else if (token == LEAST_WORD || token == MOST_WORD) {
        readPair(token == LEAST_WORD ? Statute.LEAST : Statute.MOST, open);
      } else if (token == IF_WORD) {
        readIf(open);
      } else {
        fail(1);
      }
    }

    private void readNumber() {
      int number = inside(at, numbers.length) ? numbers[at] : 0;
      if (number > MOST_NUMBER) fail(2);
      put(number);
      goOn();
    }

    private void readPair(int cell, int open) {
      goOn();
      openWith('(', open);
      readSum(open + 1);
      expect(',');
      readSum(open + 1);
      expect(')');
      put(cell);
    }

    private void readIf(int open) {
      goOn();
      openWith('(', open);
      readAny(open + 1);
      expect(',');
      readSum(open + 1);
      expect(',');
      readSum(open + 1);
      expect(')');
      put(Statute.IF);
    }

    // ---- C, A, B ----

    private void readAny(int open) {
      if (fault != 0 || open > OPEN) return;
      readEvery(open);
      for (int i = 0; i < TEXT && token == OR_WORD; i++) {
        goOn();
        readEvery(open);
        put(Statute.OR);
      }
    }

    private void readEvery(int open) {
      readTest(open);
      for (int i = 0; i < TEXT && token == AND_WORD; i++) {
        goOn();
        readTest(open);
        put(Statute.AND);
      }
    }

    private void readTest(int open) {
      if (fault != 0 || open > OPEN) return;
      if (token == NOT_WORD) {
        openWith(NOT_WORD, open);
        readTest(open + 1);
        put(Statute.NOT);
      } else if (token == '[') {
        openWith('[', open);
        readAny(open + 1);
        expect(']');
      } else {
        readComparison(open);
      }
    }

    private void readComparison(int open) {
      readSum(open);
      int sign = token;
      if (sign == '<' || sign == '>' || sign == '=') goOn();
      else fail(1);
      readSum(open);
      put(sign == '<' ? Statute.BELOW : sign == '>' ? Statute.ABOVE : Statute.SAME);
    }
  }

  /** The LAWS: what each is, who voted, what home said, and what a NAME means by them. */
  private static final class Council {
    final Statute[] book;
    int size;
    // Bit by bit which LAWS are in force.
    int mask;
    final int[] state = new int[LAWS];
    final int[] since = new int[LAWS];
    final int[] readHere = new int[LAWS];
    final int[] assented = new int[LAWS];
    final int[] yes = new int[LAWS];
    final int[] no = new int[LAWS];
    final boolean[] voted = new boolean[LAWS * PEOPLE];
    final int[] facts = new int[Statute.FACTS];
    final int[] stack = new int[TEXT];

    Council(Statute[] book) {
      this.book = book;
    }

    // Votes are left out: where something is only tried nobody votes.
    void copyFrom(Council from) {
      if (from == null) return;
      size = from.size;
      mask = from.mask;
      System.arraycopy(from.state, 0, state, 0, LAWS);
      System.arraycopy(from.since, 0, since, 0, LAWS);
      System.arraycopy(from.readHere, 0, readHere, 0, LAWS);
      System.arraycopy(from.assented, 0, assented, 0, LAWS);
    }

    int propose(Statute statute) {
      if (!inside(size, LAWS) || !inside(size, book.length)) return -1;
      book[size] = statute;
      readHere[size] = NONE;
      return size++;
    }

    int stateOf(int law) {
      return inside(law, LAWS) ? state[law] : NONE;
    }

    boolean hasVoted(int law, int person) {
      int k = law * PEOPLE + person;
      return inside(k, voted.length) && voted[k];
    }

    int hearVote(int law, int person, boolean said) {
      int k = law * PEOPLE + person;
      if (!inside(law, LAWS) || !inside(k, voted.length)) return 0;
      voted[k] = true;
      if (said) yes[law]++;
      else no[law]++;
      return said ? yes[law] : no[law];
    }

    int settle(int law, int votes, int week) {
      if (!inside(law, LAWS)) return -1;
      boolean passes = yes[law] > no[law] && yes[law] >= votes;
      state[law] = passes ? IN_FORCE : FAILED;
      since[law] = week;
      if (passes) mask |= 1 << law;
      return state[law];
    }

    boolean isReadAtHome(int law, int week) {
      return inside(law, LAWS) && week >= since[law] + SEA;
    }

    boolean isAnswered(int law) {
      return inside(law, LAWS) && readHere[law] != NONE;
    }

    int answer(int law, boolean said, int week) {
      if (!inside(law, LAWS)) return -1;
      assented[law] = said ? 1 : 0;
      readHere[law] = week;
      return week;
    }

    boolean isDue(int law, int week) {
      return inside(law, LAWS) && law < size && state[law] == IN_FORCE && readHere[law] == week;
    }

    /** Reads what home said of a LAW: whether what it did falls with it. */
    boolean hear(int law) {
      if (!inside(law, LAWS) || !inside(law, book.length)) return false;
      if (assented[law] == 1) {
        state[law] = ASSENTED;
        return false;
      }
      state[law] = UNDONE;
      mask &= ~(1 << law);
      Statute statute = book[law];
      return statute != null && statute.falls;
    }

    /** The LAW, out of those in a mask, that tells a NAME. */
    int teller(int among, int name) {
      for (int law = LAWS - 1; law >= 0; law--) {
        Statute statute = law < book.length ? book[law] : null;
        if ((among >> law & 1) == 1 && statute != null && statute.tells(name)) return law;
      }
      return NONE;
    }

    int meaning(int among, int name, int week, int sold, int people, int soil) {
      int law = teller(among, name);
      Statute statute = law >= 0 && law < book.length ? book[law] : null;
      if (statute == null) return name >= 0 && name < USUAL.length ? USUAL[name] : 0;
      facts[0] = week;
      facts[1] = week / YEAR;
      facts[2] = sold;
      facts[3] = people;
      facts[4] = soil;
      int value = statute.value(name, facts, stack);
      int least = name == PRICE ? 1 : 0;
      int most = name == SHARE ? 100 : 1000;
      return Math.max(least, Math.min(most, value));
    }
  }

  /** All that a WEEK changes, so that it can be tried beside what is. */
  private static final class World {
    final Almanac almanac;
    final Ground ground = new Ground();
    final Folk folk = new Folk();
    final Parties parties = new Parties();
    final Bills bills = new Bills();
    final Council council;
    int week;
    int store = 500;
    int treasury = 200;
    int sales;
    int toldPrice;
    int toldShare = NONE;
    int toldRain = NONE;
    // What those who act in a WEEK look at: a SALE alone changes it, so it is looked up anew behind one only.
    private boolean stale;
    private int bestLot = NONE;
    private int bestPrice;
    private int wage;
    // Who can't hire now can't till the next SALE: nobody who is OWN gets COINS while the others act.
    private boolean nobodyHires;

    World(Almanac almanac, Statute[] book) {
      this.almanac = almanac;
      this.council = new Council(book);
    }

    void copyFrom(World from) {
      if (from == null) return;
      ground.copyFrom(from.ground);
      folk.copyFrom(from.folk);
      parties.copyFrom(from.parties);
      bills.copyFrom(from.bills);
      council.copyFrom(from.council);
      week = from.week;
      store = from.store;
      treasury = from.treasury;
      sales = from.sales;
      toldPrice = 0;
      toldShare = NONE;
      toldRain = NONE;
    }

    // ---- prices ----

    int meaning(int name, int soil) {
      return council.meaning(council.mask, name, week, ground.farms, folk.here, soil);
    }

    int priceOf(int section) {
      return meaning(PRICE, ground.soilOf(section));
    }

    void sell(int person, int section, int price) {
      int share = toldShare;
      if (share == NONE) share = council.meaning(council.mask, SHARE, week, ground.farms, folk.here, 0);
      int law = toldPrice > 0 ? NONE : council.teller(council.mask, PRICE);
      int passage = price * share / 100;
      folk.spend(person, price);
      sales += passage;
      treasury += price - passage;
      ground.giveFarm(section, COUNTRY, person, price, law);
      folk.gainFarm(person);
    }

    // ---- a week ----

    void goOn() {
      folk.disembark(week);
      readLaws();
      treasury -= bills.readDue(week);
      parties.goOut(ground);
      stale = true;
      for (int p = 0; p < folk.size; p++) {
        if (folk.isHere(p)) act(p);
      }
      rainFalls();
      for (int s = 0; s < SECTIONS; s++) {
        if (ground.isStraying(s)) stray(s);
      }
      ground.endRuns(week);
      if (week % YEAR == YEAR - 1) endYear();
      week++;
    }

    int weeksTillLot(int section) {
      if (!ground.isWild(section)) return 0;
      for (int weeks = 1; weeks <= LAST_WEEK && !parties.idle(); weeks++) {
        parties.goOut(ground);
        if (!ground.isWild(section)) return weeks;
      }
      return NONE;
    }

    private void readLaws() {
      for (int law = 0; law < LAWS; law++) {
        if (council.isDue(law, week) && council.hear(law)) undoSales(law);
      }
    }

    private void undoSales(int law) {
      for (int s = 0; s < SECTIONS; s++) {
        if (ground.isBoughtBy(s, law)) takeBack(s);
      }
    }

    private void takeBack(int section) {
      int person = ground.ownerOf(section);
      int price = ground.paidFor(section);
      ground.open(section);
      folk.earn(person, price);
      folk.loseFarm(person);
      treasury -= price;
    }

    private void act(int p) {
      if (stale) lookAround();
      if (folk.stateOf(p) == HIRED) folk.payWage(p, wage);
      if (folk.stateOf(p) != OWN && bestLot != NONE && folk.canPay(p, bestPrice + 10)) {
        sell(p, bestLot, bestPrice);
        stale = true;
      }
      if (folk.stateOf(p) == FREE) seekWork(p);
      if (store > 0) store--;
      else folk.starve(p);
    }

    private void seekWork(int p) {
      int master = nobodyHires ? NONE : folk.findBoss(wage);
      nobodyHires = master == NONE;
      folk.hireBy(p, master);
    }

    private void lookAround() {
      int mask = council.mask;
      bestLot = ground.findBestLot();
      bestPrice = toldPrice;
      if (toldPrice == 0) {
        int soil = ground.soilOf(bestLot);
        bestPrice = council.meaning(mask, PRICE, week, ground.farms, folk.here, soil);
      }
      wage = council.meaning(mask, WAGE, week, ground.farms, folk.here, 0);
      nobodyHires = false;
      stale = false;
    }

    private void rainFalls() {
      for (int zone = 0; zone < ZONES; zone++) {
        ground.wet(zone, toldRain != NONE ? toldRain : almanac.rainAt(zone, week));
      }
    }

    private void stray(int s) {
      int many = ground.stockOf(s) / 8;
      int farm = ground.strangersFarmBeside(s);
      if (farm == NONE) {
        ground.addStock(s, -many);
        return;
      }
      int person = ground.ownerOf(s);
      int fine = Math.min(folk.coinsOf(person), many * meaning(FINE, 0));
      folk.spend(person, fine);
      folk.earn(ground.ownerOf(farm), fine);
    }

    private void endYear() {
      ground.seeZones();
      for (int s = 0; s < SECTIONS; s++) {
        if (ground.isFarm(s)) reap(s);
      }
      ground.breed();
      ground.newYear();
    }

    private void reap(int s) {
      int person = ground.ownerOf(s);
      if (folk.stateOf(person) != OWN) return;
      int food = ground.soilOf(s) * ground.band(zoneOf(s)) * (1 + folk.handsOf(person));
      store += food;
      folk.earn(person, food / 2);
    }
  }

  /** The IMAGE, with its sums as they were when it was taken. */
  private static final class Picture {
    final int[] numbers = new int[SECTIONS + PEOPLE];
    int size;
    long sum;
    long weighed;

    int take(Ground ground, Folk folk) {
      if (ground == null || folk == null) return size;
      size = SECTIONS + folk.size;
      for (int s = 0; s < SECTIONS; s++) {
        numbers[s] = ground.holdingOf(s) * 200 + ground.ownerOf(s) + 1;
      }
      for (int p = 0; p < folk.size && p < PEOPLE; p++) {
        numbers[SECTIONS + p] = folk.coinsOf(p) * 8 + folk.stateOf(p);
      }
      sum = sumNow();
      weighed = weighedNow();
      return size;
    }

    private long sumNow() {
      long all = 0;
      for (int k = 0; k < size && k < numbers.length; k++) all += numbers[k];
      return all;
    }

    private long weighedNow() {
      long all = 0;
      for (int k = 0; k < size && k < numbers.length; k++) all += (long) numbers[k] * (k + 1);
      return all;
    }

    int at(int k) {
      return inside(k, size) && inside(k, numbers.length) ? numbers[k] : NONE;
    }

    int alter(int k, int mask) {
      if (!inside(k, size) || !inside(k, numbers.length)) return NONE;
      numbers[k] ^= mask;
      return numbers[k];
    }

    int verdict() {
      long d = sumNow() - sum;
      long e = weighedNow() - weighed;
      if (d == 0 && e == 0) return NONE;
      if (d == 0 || e % d != 0) return -2;
      long place = e / d;
      return place >= 1 && place <= size ? (int) place - 1 : -2;
    }
  }
}
