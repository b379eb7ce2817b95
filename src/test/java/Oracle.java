import java.util.ArrayList;
import java.util.Arrays;
import java.util.HashMap;
import java.util.List;
import java.util.Map;
import java.util.function.Consumer;

/**
 * A second, naive SettlerColony, written from the document alone: it counts instead of keeping counters, holds laws
 * as trees, and tries things by doing all calls again on a new object. OracleTest compares the two.
 */
public final class Oracle {
  private static final int NONE = -1;
  private static final String[] NAMES = {"price", "share", "wage", "run", "fine", "votes", "choice", "squat"};
  private static final int[] USUAL = {20, 50, 2, 5, 1, 0, 4, 1};

  private static final class Sec {
    int soil = 5, left = 7, kind, who = NONE, ends = NONE, stock, paid = NONE, law = NONE;
    boolean water, fence;

    boolean farm() { return kind == 3 || kind == 5; }
    boolean pasture() { return kind == 4 || kind == 6; }

    void becomeLot() {
      kind = 1; who = NONE; ends = NONE; stock = 0; paid = NONE; law = NONE; fence = false; left = 0;
    }
  }

  private static final class Per {
    int trade, coins, is, boss = NONE, order = NONE, orderPaid, hungry, landing = NONE;
    boolean chose;

    boolean here() { return is >= 2; }
    void get(int sum) { coins = Math.min(1000000, coins + sum); }
  }

  private static final class Party {
    int pace, x, y;
    List<Integer> queue = new ArrayList<>();
  }

  private static final class Facts {
    int week, sold, people, soil;
  }

  interface Node { int of(Facts f); }

  private static final class Law {
    Map<String, Node> tells = new HashMap<>();
    boolean fall;
    int is, closed, readHere = NONE;
    boolean said;
    Map<Integer, Boolean> votes = new HashMap<>();
    boolean inForce() { return is == 2 || is == 3; }
  }

  private static final class Bill { int sum, hands, is, due; }

  private static final class Row {
    int[] what;
    List<Integer> inForce = new ArrayList<>();
  }

  private static final class Fault extends RuntimeException {
    private static final long serialVersionUID = 1;

    final int kind, place;
    Fault(int kind, int place) { this.kind = kind; this.place = place; }
  }

  private final List<Consumer<Oracle>> log = new ArrayList<>();
  private boolean again;
  private final Sec[] secs = new Sec[96];
  private final List<List<Integer>> told = new ArrayList<>();
  private final List<List<Integer>> seenYears = new ArrayList<>();
  private final int[] year = new int[4];
  private final List<Per> folk = new ArrayList<>();
  private final List<Party> parties = new ArrayList<>();
  private final List<Integer> asking = new ArrayList<>();
  private final List<Integer> acres = new ArrayList<>();
  private final List<Integer> orders = new ArrayList<>();
  private final List<Law> laws = new ArrayList<>();
  private final List<Bill> bills = new ArrayList<>();
  private final List<Row> rows = new ArrayList<>();
  private final List<Integer> tape = new ArrayList<>();
  private int week, store = 500, treasury = 200, sales, orderCoins, shipCoins, ships, fund, fault = NONE;
  private int asPrice, asShare = NONE, asRain = NONE;
  private int[] prices, rains, image, image0;

  public Oracle() {
    for (int i = 0; i < 96; i++) secs[i] = new Sec();
    for (int i = 0; i < 4; i++) { told.add(new ArrayList<>()); seenYears.add(new ArrayList<>()); }
  }

  private void did(Consumer<Oracle> call) { if (!again) log.add(call); }

  private Oracle copy() {
    Oracle o = new Oracle();
    o.again = true;
    for (Consumer<Oracle> c : log) {
      try { c.accept(o); } catch (IllegalArgumentException | IllegalStateException | IndexOutOfBoundsException e) { continue; }
    }
    return o;
  }

  private static void index(int k, int n) { if (k < 0 || k >= n) throw new IndexOutOfBoundsException(); }
  private static void arg(boolean ok) { if (!ok) throw new IllegalArgumentException(); }

  // ---- land ----

  public int land(int section, int soil, boolean water) {
    did(o -> o.land(section, soil, water));
    index(section, 96); arg(soil >= 0 && soil <= 9);
    Sec s = secs[section];
    if (s.kind != 0) return -1;
    s.soil = soil; s.water = water;
    s.left = 6 + (9 - soil) / 3;
    if (water) s.left += 3;
    return 1;
  }

  public int rain(int zone, int rain) {
    did(o -> o.rain(zone, rain));
    index(zone, 4); arg(rain >= -1 && rain <= 500);
    if (told.get(zone).size() == 1000) return -1;
    told.get(zone).add(rain);
    return told.get(zone).size();
  }

  public int rains(int zone, int rain, int weeks) {
    did(o -> o.rains(zone, rain, weeks));
    index(zone, 4); arg(rain >= 0 && rain <= 500); arg(weeks >= 1 && weeks <= 1000);
    if (told.get(zone).size() + weeks > 1000) return -1;
    for (int i = 0; i < weeks; i++) told.get(zone).add(rain);
    return told.get(zone).size();
  }

  public int fell(int zone, int week) {
    index(zone, 4); arg(week >= 0 && week <= 1000);
    if (week >= told.get(zone).size()) return 10;
    int r = told.get(zone).get(week);
    if (r >= 0) return r;
    int sum = 0, n = 0;
    for (int z = zone - 1; z <= zone + 1; z += 2) {
      if (z < 0 || z > 3 || week >= told.get(z).size() || told.get(z).get(week) < 0) continue;
      sum += told.get(z).get(week);
      n++;
    }
    return n == 0 ? 0 : sum / n;
  }

  public int seen(int zone) { index(zone, 4); return seenYears.get(zone).size(); }

  public int promise(int section) {
    index(section, 96);
    List<Integer> y = seenYears.get(section % 12 / 3);
    int mean = y.isEmpty() ? 0 : y.stream().mapToInt(v -> v).sum() / y.size();
    return secs[section].soil * 10 + mean / 10;
  }

  public int section(int section, int what) {
    index(section, 96); arg(what >= 0 && what < 7);
    Sec s = secs[section];
    return new int[] {s.kind, s.who, s.ends, s.pasture() ? s.stock : NONE, s.pasture() ? (s.fence ? 1 : 0) : NONE,
        s.farm() ? s.paid : NONE, s.kind == 0 ? s.left : 0}[what];
  }

  public boolean is(int section, int what) {
    index(section, 96); arg(what >= 0 && what < 4);
    Sec s = secs[section];
    return new boolean[] {s.kind >= 1, s.farm(), s.pasture(), s.who >= 0}[what];
  }

  // ---- people ----

  public int people(int many, int trade, int coins) {
    did(o -> o.people(many, trade, coins));
    arg(trade >= 0 && trade <= 3); arg(coins >= 0 && coins <= 1000000);
    if ((long) folk.size() + many > 100) return -1;
    if (many < 0) return -2;
    int first = folk.size();
    for (int i = 0; i < many; i++) newOne(trade, coins);
    return first;
  }

  private Per newOne(int trade, int coins) {
    Per p = new Per();
    p.trade = trade; p.coins = coins;
    folk.add(p);
    return p;
  }

  private int hiredBy(int person) { return (int) folk.stream().filter(p -> p.is == 3 && p.boss == person).count(); }
  private int farmsOf(int person) { return (int) Arrays.stream(secs).filter(s -> s.farm() && s.who == person).count(); }
  private int farms() { return (int) Arrays.stream(secs).filter(Sec::farm).count(); }
  private int here() { return (int) folk.stream().filter(Per::here).count(); }
  private int hungry() { return folk.stream().mapToInt(p -> p.hungry).sum(); }

  public int person(int person, int what) {
    index(person, folk.size()); arg(what >= 0 && what < 9);
    Per p = folk.get(person);
    switch (what) {
      case 0: return p.trade;
      case 1: return p.coins;
      case 2: return p.is;
      case 3: return p.is == 3 ? p.boss : NONE;
      case 4: return hiredBy(person);
      case 5: return farmsOf(person);
      case 6: return p.order;
      case 7: return p.hungry;
      default: return p.is == 0 ? NONE : p.landing;
    }
  }

  // ---- survey ----

  public int party(int pace) {
    did(o -> o.party(pace));
    arg(pace >= 1 && pace <= 9);
    if (parties.size() == 4) return -1;
    Party p = new Party();
    p.pace = pace;
    parties.add(p);
    return parties.size() - 1;
  }

  public int queue(int party, int section) {
    did(o -> o.queue(party, section));
    index(party, parties.size()); index(section, 96);
    List<Integer> q = parties.get(party).queue;
    if (q.size() == 12) return -1;
    if (secs[section].kind != 0) return -2;
    q.add(section);
    return q.size();
  }

  public int where(int party, int what) {
    index(party, parties.size()); arg(what >= 0 && what < 3);
    Party p = parties.get(party);
    if (what == 0) return 12 * p.y + p.x;
    if (what == 1) return p.queue.size();
    return p.queue.isEmpty() ? NONE : p.queue.get(0);
  }

  public int lot(int section) {
    index(section, 96);
    if (secs[section].kind != 0) return 0;
    Oracle o = copy();
    for (int w = 1; w < 3000; w++) {
      o.survey();
      if (o.secs[section].kind != 0) return w;
    }
    return NONE;
  }

  private void survey() {
    for (Party p : parties) {
      int miles = p.pace;
      while (true) {
        while (!p.queue.isEmpty() && secs[p.queue.get(0)].kind != 0) p.queue.remove(0);
        if (p.queue.isEmpty() || miles == 0) break;
        miles--;
        int tx = p.queue.get(0) % 12, ty = p.queue.get(0) / 12;
        if (p.x != tx) p.x += Integer.signum(tx - p.x);
        else if (p.y != ty) p.y += Integer.signum(ty - p.y);
        else if (--secs[p.queue.get(0)].left == 0) secs[p.queue.get(0)].becomeLot();
      }
    }
  }

  // ---- town ----

  public int ask(int person) {
    did(o -> o.ask(person));
    index(person, folk.size());
    if (!folk.get(person).here()) return -1;
    if (acres.contains(person) || asking.contains(person)) return -2;
    if (acres.size() + asking.size() == 12) return -3;
    asking.add(person);
    return asking.size();
  }

  public int draw(int number) {
    did(o -> o.draw(number));
    long all = 1;
    for (int i = 1; i <= asking.size(); i++) all *= i;
    arg(number >= 0 && number < all);
    List<Integer> left = new ArrayList<>(asking);
    int n = asking.size();
    long rest = number;
    for (int i = n; i >= 1; i--) {
      all /= i;
      acres.add(left.remove((int) (rest / all)));
      rest %= all;
    }
    asking.clear();
    return n;
  }

  public int acre(int acre) { index(acre, 12); return acre < acres.size() ? acres.get(acre) : NONE; }

  // ---- meaning ----

  private Law teller(List<Integer> among, int name) {
    Law found = null;
    for (int k : among) if (laws.get(k).tells.containsKey(NAMES[name])) found = laws.get(k);
    return found;
  }

  private List<Integer> inForce() {
    List<Integer> list = new ArrayList<>();
    for (int k = 0; k < laws.size(); k++) if (laws.get(k).inForce()) list.add(k);
    return list;
  }

  private int meaning(List<Integer> among, int name, Facts f) {
    Law law = teller(among, name);
    if (law == null) return USUAL[name];
    int v = law.tells.get(NAMES[name]).of(f);
    int low = name == 0 ? 1 : 0, high = name == 1 ? 100 : 1000;
    return v < low ? low : v > high ? high : v;
  }

  private int now(int name, int soil) {
    Facts f = new Facts();
    f.week = week; f.sold = farms(); f.people = here(); f.soil = soil;
    return meaning(inForce(), name, f);
  }

  private int price(int section) { return asPrice > 0 ? asPrice : now(0, secs[section].soil); }

  private void sell(int person, int section) {
    int price = price(section);
    int share = asShare >= 0 ? asShare : now(1, 0);
    Law law = asPrice > 0 ? null : teller(inForce(), 0);
    folk.get(person).coins -= price;
    sales += price * share / 100;
    treasury += price - price * share / 100;
    own(person, section, 3, price, law == null ? NONE : laws.indexOf(law));
  }

  private void own(int person, int section, int kind, int price, int law) {
    Sec s = secs[section];
    s.becomeLot();
    s.kind = kind; s.who = person; s.paid = price; s.law = law;
    folk.get(person).is = 4;
    folk.get(person).boss = NONE;
  }

  // ---- sales ----

  public int buy(int person, int section) {
    did(o -> o.buy(person, section));
    index(person, folk.size()); index(section, 96);
    if (!folk.get(person).here()) return -1;
    if (secs[section].kind != 1) return -2;
    int price = price(section);
    if (folk.get(person).coins < price) return -3;
    sell(person, section);
    return price;
  }

  public int order(int person) {
    did(o -> o.order(person));
    index(person, folk.size());
    Per p = folk.get(person);
    if (p.is != 0) return -1;
    if (p.order >= 0) return -2;
    int price = quoted();
    if (p.coins < price) return -3;
    p.coins -= price;
    orderCoins += price;
    p.order = orders.size();
    p.orderPaid = price;
    orders.add(person);
    return p.order;
  }

  public int choose(int person, int section) {
    did(o -> o.choose(person, section));
    index(person, folk.size()); index(section, 96);
    Per p = folk.get(person);
    if (p.order < 0 || p.chose) return -1;
    if (!p.here()) return -2;
    if (secs[section].kind != 1) return -3;
    int choice = now(6, 0);
    for (int n = 0; n < p.order; n++) {
      Per q = folk.get(orders.get(n));
      if (!q.chose && q.here() && week - q.landing < choice) return -4;
    }
    p.chose = true;
    own(person, section, 5, p.orderPaid, NONE);
    return 1;
  }

  public int run(int person, int section) {
    did(o -> o.run(person, section));
    index(person, folk.size()); index(section, 96);
    Per p = folk.get(person);
    Sec s = secs[section];
    if (!p.here()) return -1;
    if (s.kind != 1 && !(s.pasture() && s.who == person)) return -2;
    int price = now(3, 0);
    if (p.coins < price) return -3;
    p.coins -= price;
    treasury += price;
    s.kind = 4; s.who = person; s.ends = week + 52;
    return price;
  }

  public int squat(int person, int section) {
    did(o -> o.squat(person, section));
    index(person, folk.size()); index(section, 96);
    if (!folk.get(person).here()) return -1;
    if (secs[section].kind != 1) return -2;
    if (now(7, 0) == 0) return -3;
    secs[section].kind = 6;
    secs[section].who = person;
    return 1;
  }

  public int stock(int person, int section, int many) {
    did(o -> o.stock(person, section, many));
    index(person, folk.size()); index(section, 96); arg(many >= 0 && many <= 1000);
    Sec s = secs[section];
    if (!s.pasture() || s.who != person) return -1;
    if (folk.get(person).coins < 2 * many) return -2;
    if (s.stock + many > 1000) return -3;
    folk.get(person).coins -= 2 * many;
    return s.stock += many;
  }

  public int fence(int person, int section) {
    did(o -> o.fence(person, section));
    index(person, folk.size()); index(section, 96);
    Sec s = secs[section];
    Per p = folk.get(person);
    if (!s.pasture() || s.who != person) return -1;
    if (s.fence) return -2;
    int price = p.trade == 2 ? 5 : 15;
    if (p.coins < price) return -3;
    p.coins -= price;
    s.fence = true;
    return 1;
  }

  // ---- laws ----

  public int feed(int a, int b, int c, int d, int e) {
    did(o -> o.feed(a, b, c, d, e));
    if (tape.size() + 20 > 300) return NONE;
    for (int v : new int[] {a, b, c, d, e}) for (int k = 3; k >= 0; k--) tape.add((v >> (8 * k)) & 255);
    return tape.size();
  }

  public int law(int n) {
    did(o -> o.law(n));
    arg(n >= 0 && n <= tape.size());
    fault = NONE;
    StringBuilder text = new StringBuilder();
    for (int i = 0; i < n; i++) text.append((char) (int) tape.get(i));
    tape.clear();
    if (laws.size() == 12) return -1;
    try {
      laws.add(new Parse(text.toString()).law());
      return laws.size() - 1;
    } catch (Fault f) {
      fault = f.place;
      return f.kind - 10;
    }
  }

  public int fault() { return fault; }

  private static final class Parse {
    final String t;
    int at, open;
    Parse(String t) { this.t = t; }

    void blanks() { while (at < t.length() && t.charAt(at) == ' ') at++; }
    Fault no(int kind) { blanks(); return new Fault(kind, at); }

    String peek() {
      blanks();
      if (at == t.length()) return "";
      int e = at;
      char c = t.charAt(at);
      if (c >= 'a' && c <= 'z') while (e < t.length() && t.charAt(e) >= 'a' && t.charAt(e) <= 'z') e++;
      else if (c >= '0' && c <= '9') while (e < t.length() && t.charAt(e) >= '0' && t.charAt(e) <= '9') e++;
      else e++;
      return t.substring(at, e);
    }

    boolean next(String... any) { return Arrays.asList(any).contains(peek()); }

    String take(String... any) {
      String got = peek();
      if (!Arrays.asList(any).contains(got)) throw no(1);
      at += got.length();
      return got;
    }

    Law law() {
      Law law = new Law();
      int clauses = 0;
      while (!peek().isEmpty()) {
        boolean undo = next("undo");
        if (!undo && !next(NAMES)) throw no(1);
        if (++clauses > 10) throw no(3);
        if (undo) {
          take("undo");
          law.fall = take("stand", "fall").equals("fall");
        } else {
          String name = take(NAMES);
          take("=");
          law.tells.put(name, e());
        }
        take(";");
      }
      return law;
    }

    void down(String with) {
      if (!next(with)) throw no(1);
      if (open == 8) throw no(3);
      take(with);
      open++;
    }

    void up(String with) { take(with); open--; }

    Node e() {
      Node a = t();
      while (next("+", "-")) {
        String op = take("+", "-");
        Node l = a, r = t();
        a = op.equals("+") ? f -> l.of(f) + r.of(f) : f -> l.of(f) - r.of(f);
      }
      return a;
    }

    Node t() {
      Node a = u();
      while (next("*", "/", "%")) {
        String op = take("*", "/", "%");
        Node l = a, r = u();
        if (op.equals("*")) a = f -> l.of(f) * r.of(f);
        else if (op.equals("/")) a = f -> r.of(f) == 0 ? 0 : l.of(f) / r.of(f);
        else a = f -> r.of(f) == 0 ? 0 : l.of(f) % r.of(f);
      }
      return a;
    }

    Node u() {
      String p = peek();
      if (!p.isEmpty() && Character.isDigit(p.charAt(0)) && p.charAt(0) < 128) {
        String digits = p.replaceFirst("^0+", "");
        if (digits.length() > 4) throw no(2);
        at += p.length();
        int v = digits.isEmpty() ? 0 : Integer.parseInt(digits);
        return f -> v;
      }
      if (next("week", "year", "sold", "people", "soil")) {
        switch (take("week", "year", "sold", "people", "soil")) {
          case "week": return f -> f.week;
          case "year": return f -> f.week / 52;
          case "sold": return f -> f.sold;
          case "people": return f -> f.people;
          default: return f -> f.soil;
        }
      }
      if (next("(")) { down("("); Node a = e(); up(")"); return a; }
      if (next("least", "most")) {
        boolean least = take("least", "most").equals("least");
        down("(");
        Node a = e();
        take(",");
        Node b = e();
        up(")");
        return least ? f -> Math.min(a.of(f), b.of(f)) : f -> Math.max(a.of(f), b.of(f));
      }
      if (next("if")) {
        take("if");
        down("(");
        Node c = c();
        take(",");
        Node a = e();
        take(",");
        Node b = e();
        up(")");
        return f -> c.of(f) == 1 ? a.of(f) : b.of(f);
      }
      throw no(1);
    }

    Node c() {
      Node a = a();
      while (next("or")) { take("or"); Node l = a, r = a(); a = f -> l.of(f) == 1 || r.of(f) == 1 ? 1 : 0; }
      return a;
    }

    Node a() {
      Node a = b();
      while (next("and")) { take("and"); Node l = a, r = b(); a = f -> l.of(f) == 1 && r.of(f) == 1 ? 1 : 0; }
      return a;
    }

    Node b() {
      if (next("not")) { down("not"); Node a = b(); open--; return f -> 1 - a.of(f); }
      if (next("[")) { down("["); Node a = c(); up("]"); return a; }
      Node l = e();
      String op = take("<", ">", "=");
      Node r = e();
      if (op.equals("<")) return f -> l.of(f) < r.of(f) ? 1 : 0;
      if (op.equals(">")) return f -> l.of(f) > r.of(f) ? 1 : 0;
      return f -> l.of(f) == r.of(f) ? 1 : 0;
    }
  }

  public int vote(int law, int person, boolean yes) {
    did(o -> o.vote(law, person, yes));
    index(law, laws.size()); index(person, folk.size());
    Law l = laws.get(law);
    if (l.is != 0) return -1;
    if (!folk.get(person).here() || farmsOf(person) == 0 && !acres.contains(person)) return -2;
    if (l.votes.containsKey(person)) return -3;
    l.votes.put(person, yes);
    return said(l, yes);
  }

  private static int said(Law l, boolean what) { return (int) l.votes.values().stream().filter(v -> v == what).count(); }

  public int close(int law) {
    did(o -> o.close(law));
    index(law, laws.size());
    Law l = laws.get(law);
    if (l.is != 0) return -1;
    l.closed = week;
    int needed = now(5, 0);
    return l.is = said(l, true) > said(l, false) && said(l, true) >= needed ? 2 : 1;
  }

  public int assent(int law, boolean yes) {
    did(o -> o.assent(law, yes));
    index(law, laws.size());
    Law l = laws.get(law);
    if (l.is != 2) return -1;
    if (week < l.closed + 34) return -2;
    if (l.readHere != NONE) return -3;
    l.said = yes;
    return l.readHere = week + 34;
  }

  public int force(int law) { index(law, laws.size()); return laws.get(law).is; }

  public int means(int name, int section) {
    if (section != NONE) index(section, 96);
    arg(name >= 0 && name < 8);
    return now(name, section == NONE ? 0 : secs[section].soil);
  }

  public int why(int name) {
    arg(name >= 0 && name < 8);
    Law l = teller(inForce(), name);
    return l == null ? NONE : laws.indexOf(l);
  }

  // ---- home ----

  private Row homeRow() { return week - 34 >= 0 ? rows.get(week - 34) : null; }

  public int quoted() {
    Row r = homeRow();
    if (r == null) return 20;
    Facts f = new Facts();
    f.week = week - 34; f.sold = r.what[1]; f.people = r.what[0];
    return meaning(r.inForce, 0, f);
  }

  public int passages() { return (homeRow() == null ? 0 : homeRow().what[5]) + orderCoins - shipCoins; }

  public int ship(int farmers, int hands, int smiths, int shepherds) {
    did(o -> o.ship(farmers, hands, smiths, shepherds));
    int[] many = {farmers, hands, smiths, shepherds};
    long all = 0;
    for (int m : many) { if (m < 0) return -1; all += m; }
    if (ships == 20) return -2;
    if (folk.size() + all > 100) return -3;
    if (all * 10 > passages()) return -4;
    shipCoins += all * 10;
    for (Per p : folk) if (p.is == 0 && p.order >= 0) { p.is = 1; p.landing = week + 34; }
    for (int t = 0; t < 4; t++) {
      for (int i = 0; i < many[t]; i++) { Per p = newOne(t, 5); p.is = 1; p.landing = week + 34; }
    }
    return ships++;
  }

  public int fund(int much) {
    did(o -> o.fund(much));
    arg(much >= 0 && much <= 100000);
    return fund += much;
  }

  public int bill(int sum) {
    did(o -> o.bill(sum));
    arg(sum >= 1 && sum <= 10000);
    if (bills.size() == 20) return -1;
    Bill b = new Bill();
    b.sum = sum; b.due = week + 34;
    bills.add(b);
    treasury += sum;
    return bills.size() - 1;
  }

  public int pass(int bill) {
    did(o -> o.pass(bill));
    index(bill, bills.size());
    Bill b = bills.get(bill);
    if (b.hands == 5) return -1;
    if (b.is != 0) return -2;
    return ++b.hands;
  }

  public int billed(int bill) { index(bill, bills.size()); return bills.get(bill).is; }

  // ---- weeks ----

  public int week(int weeks) {
    did(o -> o.week(weeks));
    arg(weeks >= 0 && weeks <= 104);
    if (week + weeks > 1000) throw new IllegalStateException();
    for (int i = 0; i < weeks; i++) oneWeek();
    return week;
  }

  private void oneWeek() {
    for (Per p : folk) if (p.is == 1 && p.landing == week) p.is = 2;
    for (int k = 0; k < laws.size(); k++) readLaw(k);
    for (Bill b : bills) readBill(b);
    survey();
    for (int k = 0; k < folk.size(); k++) if (folk.get(k).here()) personsWeek(k);
    for (int z = 0; z < 4; z++) year[z] += asRain >= 0 ? asRain : fell(z, week);
    for (int s = 0; s < 96; s++) stray(s);
    for (Sec s : secs) if (s.kind == 4 && s.ends == week) s.becomeLot();
    if ((week + 1) % 52 == 0) yearEnds();
    Row r = new Row();
    r.what = new int[] {here(), farms(), store, treasury, hungry(), sales};
    r.inForce = inForce();
    rows.add(r);
    week++;
  }

  private void readLaw(int k) {
    Law l = laws.get(k);
    if (l.is != 2 || l.readHere != week) return;
    l.is = l.said ? 3 : 4;
    if (l.said || !l.fall) return;
    for (Sec s : secs) {
      if (s.kind != 3 || s.law != k) continue;
      int who = s.who;
      folk.get(who).get(s.paid);
      treasury -= s.paid;
      s.becomeLot();
      if (farmsOf(who) > 0) continue;
      folk.get(who).is = 2;
      for (Per p : folk) if (p.is == 3 && p.boss == who) p.is = 2;
    }
  }

  private void readBill(Bill b) {
    if (b.is == 0 && week == b.due) {
      if (fund >= b.sum) { fund -= b.sum; b.is = 1; } else b.is = 2;
    } else if (b.is == 2 && week == b.due + 34) {
      b.is = 3;
      treasury -= b.sum + b.sum * 20 / 100 + b.hands;
    }
  }

  private void personsWeek(int k) {
    Per p = folk.get(k);
    if (p.is == 3) {
      int wage = now(2, 0);
      Per boss = folk.get(p.boss);
      if (boss.coins >= wage) { boss.coins -= wage; p.get(wage); } else p.is = 2;
    }
    if (p.is == 2 || p.is == 3) {
      int best = NONE;
      for (int s = 95; s >= 0; s--) if (secs[s].kind == 1 && (best < 0 || promise(s) >= promise(best))) best = s;
      if (best >= 0 && price(best) + 10 <= p.coins) sell(k, best);
    }
    if (p.is == 2) {
      int wage = now(2, 0), boss = NONE;
      for (int q = folk.size() - 1; q >= 0; q--) {
        if (folk.get(q).is != 4 || hiredBy(q) >= 4 || folk.get(q).coins < wage) continue;
        if (boss < 0 || hiredBy(q) <= hiredBy(boss)) boss = q;
      }
      if (boss >= 0) { p.is = 3; p.boss = boss; }
    }
    if (store >= 1) store--; else p.hungry++;
  }

  private void stray(int k) {
    Sec s = secs[k];
    if (!s.pasture() || s.stock < 8 || s.fence) return;
    int many = s.stock / 8, to = NONE;
    for (int n = 0; n < 96 && to < 0; n++) {
      int far = Math.abs(n % 12 - k % 12) + Math.abs(n / 12 - k / 12);
      if (far == 1 && secs[n].farm() && secs[n].who != s.who) to = n;
    }
    if (to < 0) { s.stock -= many; return; }
    int pays = Math.min(folk.get(s.who).coins, now(4, 0) * many);
    folk.get(s.who).coins -= pays;
    folk.get(secs[to].who).get(pays);
  }

  private void yearEnds() {
    for (int z = 0; z < 4; z++) {
      for (int s = 0; s < 96; s++) {
        if (s % 12 / 3 == z && secs[s].who >= 0) { seenYears.get(z).add(year[z]); break; }
      }
    }
    for (int s = 0; s < 96; s++) {
      Sec t = secs[s];
      if (!t.farm()) continue;
      int r = year[s % 12 / 3];
      int band = r < 300 ? 0 : r < 600 ? 1 : r < 900 ? 2 : r < 1500 ? 3 : 1;
      int food = t.soil * band * (1 + hiredBy(t.who));
      store += food;
      folk.get(t.who).get(food / 2);
    }
    for (Sec s : secs) if (s.pasture()) s.stock = Math.min(1000, s.stock + s.stock / 4);
    Arrays.fill(year, 0);
  }

  public int as(int week, int place, int what) {
    arg(place == 0 || place == 1); arg(what >= 0 && what <= 5);
    int known = place == 0 ? this.week : this.week - 33;
    return week >= 0 && week < known ? rows.get(week).what[what] : -2000000000;
  }

  // ---- tried and planned ----

  public int tried(int price, int share, int weeks, int what) {
    arg(price >= 0 && price <= 1000); arg(share >= -1 && share <= 100);
    arg(weeks >= 1 && weeks <= 104); arg(what >= 0 && what <= 5);
    if (week + weeks > 1000) throw new IllegalStateException();
    Oracle o = copy();
    o.asPrice = price;
    o.asShare = share;
    o.week(weeks);
    int hired = (int) o.folk.stream().filter(p -> p.is == 3).count();
    return new int[] {o.farms(), o.hungry(), o.treasury, o.store, hired, o.here()}[what];
  }

  public void prices(int a, int b, int c) {
    for (int p : new int[] {a, b, c}) arg(p >= 1 && p <= 1000);
    prices = new int[] {a, b, c};
  }

  public void worst(int many, int a, int b, int c) {
    arg(many >= 1 && many <= 3);
    for (int r : new int[] {a, b, c}) arg(r >= 0 && r <= 500);
    rains = Arrays.copyOf(new int[] {a, b, c}, many);
  }

  public int planned(int steps, int what) {
    arg(steps == 1 || steps == 2); arg(what >= 0 && what <= 3);
    if (week + 13 * steps > 1000) throw new IllegalStateException();
    if (prices == null || rains == null) return NONE;
    int[] best = null;
    for (int first = 0; first < 3; first++) {
      for (int second = steps == 1 ? NONE : 0; second < (steps == 1 ? 0 : 3); second++) {
        int most = 0, least = 1000;
        for (int r : rains) {
          Oracle o = copy();
          o.asRain = r;
          o.asPrice = prices[first];
          o.week(13);
          if (second >= 0) { o.asPrice = prices[second]; o.week(13); }
          most = Math.max(most, o.hungry());
          least = Math.min(least, o.farms());
        }
        if (best == null || most < best[2] || most == best[2] && least > best[3]) {
          best = new int[] {first, second, most, least};
        }
      }
    }
    return best[what];
  }

  // ---- image ----

  public int image() {
    image = new int[96 + folk.size()];
    for (int s = 0; s < 96; s++) image[s] = secs[s].kind * 200 + (secs[s].who < 0 ? 0 : secs[s].who + 1);
    for (int p = 0; p < folk.size(); p++) image[96 + p] = folk.get(p).coins * 8 + folk.get(p).is;
    image0 = image.clone();
    return image.length;
  }

  public int number(int k) { return image == null || k < 0 || k >= image.length ? NONE : image[k]; }

  public int tear(int k, int mask) {
    if (image == null || k < 0 || k >= image.length) return NONE;
    return image[k] ^= mask;
  }

  public int check() {
    if (image == null) return NONE;
    long d = 0, e = 0;
    for (int k = 0; k < image.length; k++) {
      long more = (long) image[k] - image0[k];
      d += more;
      e += more * (k + 1);
    }
    if (d == 0 && e == 0) return NONE;
    for (int place = 1; place <= image.length; place++) if (d != 0 && e == d * place) return place - 1;
    return -2;
  }

  public int count(int what) {
    int[] all = {week, folk.size(), here(), farms(), store, treasury, hungry(), laws.size(), ships, bills.size(),
        parties.size(), orders.size(), fund, tape.size(), acres.size()};
    return what >= 0 && what < all.length ? all[what] : NONE;
  }
}
