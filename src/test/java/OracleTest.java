import java.lang.reflect.InvocationTargetException;
import java.lang.reflect.Method;
import java.util.ArrayList;
import java.util.Arrays;
import java.util.List;
import java.util.Random;

/** Random runs of calls on SettlerColony and on the Oracle: every answer must be the same. */
public final class OracleTest {
  private static final int CALLS = 512;

  private final Random dice;
  private final SettlerColony real = new SettlerColony();
  private final Oracle oracle = new Oracle();
  private final List<String> log = new ArrayList<>();
  private int people;
  private int parties;
  private int laws;
  private int bills;
  private int week;

  private OracleTest(long seed) {
    dice = new Random(seed);
  }

  public static void main(String[] args) throws Exception {
    int runs = args.length > 0 ? Integer.parseInt(args[0]) : 150;
    long from = args.length > 1 ? Long.parseLong(args[1]) : 1;
    for (long seed = from; seed < from + runs; seed++) {
      if (!new OracleTest(seed).goOn()) {
        System.out.println("seed " + seed);
        System.exit(1);
      }
    }
    System.out.println(runs + " runs are alike");
  }

  private boolean goOn() throws Exception {
    boolean right = setUp();
    while (right && log.size() < CALLS) right = step();
    if (!right) for (String line : log) System.out.println(line);
    return right;
  }

  private int upTo(int n) {
    return dice.nextInt(n);
  }

  private boolean chance(int hundredths) {
    return dice.nextInt(100) < hundredths;
  }

  /** Mostly one of those that there are, now and then one that is not. */
  private int one(int many) {
    if (many > 0 && chance(95)) return upTo(many);
    return chance(50) ? many : -1 + upTo(3) * upTo(60);
  }

  private boolean setUp() throws Exception {
    boolean right = true;
    for (int i = 0; i < 10 && right; i++) right = call("land", upTo(96), upTo(10), chance(30));
    for (int z = 0; z < 4 && right; z++) if (chance(70)) right = call("rains", z, 2 + upTo(35), 60 + upTo(300));
    int groups = 1 + upTo(4);
    for (int i = 0; i < groups && right; i++) right = call("people", 1 + upTo(8), upTo(4), upTo(chance(50) ? 60 : 600));
    for (int i = 0; i < 1 + upTo(3) && right; i++) right = call("party", 2 + upTo(8));
    int queued = 5 + upTo(25);
    for (int i = 0; i < queued && right; i++) right = call("queue", one(parties), upTo(36));
    for (int p = 0; p < people && right; p++) if (chance(70)) right = call("order", p);
    if (right) right = call("ship", upTo(3), upTo(4), upTo(2), upTo(2));
    if (right && chance(90)) right = call("week", 34 + upTo(12));
    return right;
  }

  private boolean step() throws Exception {
    switch (upTo(44)) {
      case 0: return call("land", one(96), -1 + upTo(12), chance(50));
      case 1: return call("rain", one(4), chance(30) ? -1 : -2 + upTo(510));
      case 2: return call("rains", one(4), -1 + upTo(60), chance(80) ? 1 + upTo(60) : upTo(1002));
      case 3: return call("fell", one(4), -1 + upTo(1003));
      case 4: return call("seen", one(4)) && call("promise", one(96));
      case 5: return call("section", one(96), -1 + upTo(9)) && call("is", one(96), -1 + upTo(6));
      case 6: return chance(30) ? call("people", -1 + upTo(6), -1 + upTo(6), upTo(500)) : see();
      case 7: return see();
      case 8: return chance(40) ? call("party", upTo(11)) : call("where", one(parties), -1 + upTo(5));
      case 9: case 10: return call("queue", one(parties), one(96));
      case 11: return call("lot", one(96));
      case 12: case 13: return call("ask", one(people));
      case 14: return chance(30) ? call("draw", chance(50) ? 0 : -1 + upTo(chance(70) ? 8 : 400000000)) : call("acre", one(12));
      case 15: case 16: return call("buy", one(people), lot());
      case 17: return call("order", one(people));
      case 18: return call("choose", one(people), lot());
      case 19: case 20: return call("run", one(people), lot());
      case 21: case 22: return call("squat", one(people), lot());
      case 23: case 24: return pasture();
      case 25: case 26: case 27: return propose();
      case 28: case 29: case 30: return votes();
      case 31: return call("assent", one(laws), chance(40)) && call("force", one(laws));
      case 32: case 33: return call("means", -1 + upTo(10), chance(30) ? -1 : one(96)) && call("why", -1 + upTo(10));
      case 34: return call("quoted") && call("passages");
      case 35: return call("ship", -1 + upTo(chance(70) ? 4 : 60), upTo(3), upTo(2), upTo(2));
      case 36: return chance(50) ? call("fund", chance(95) ? upTo(300) : -1 + upTo(200000)) : call("bill", chance(90) ? 1 + upTo(300) : upTo(10003));
      case 37: return call("pass", one(bills)) && call("billed", one(bills));
      case 38: case 39: return call("week", chance(85) ? upTo(9) : chance(90) ? upTo(60) : -1 + upTo(107));
      case 40: return call("as", chance(80) ? upTo(week + 2) : -1 + upTo(1003), -1 + upTo(4), -1 + upTo(8));
      case 41: return tryOut();
      case 42: return picture();
      default: return call("count", -1 + upTo(17));
    }
  }

  private boolean see() throws Exception {
    return call("person", one(people), -1 + upTo(11)) && call("person", one(people), upTo(9));
  }

  /** A SECTION that is a LOT, if one is found soon. */
  private int lot() {
    int s = one(96);
    for (int i = 0; i < 60 && (s < 0 || s > 95 || real.section(s, 0) != 1); i++) s = upTo(48);
    return chance(90) ? s : one(96);
  }

  private boolean pasture() throws Exception {
    int s = upTo(96);
    for (int i = 0; i < 200 && !real.is(s, 2); i++) s = upTo(96);
    int p = real.is(s, 2) && chance(90) ? real.section(s, 1) : one(people);
    if (chance(20)) return call("fence", p, chance(95) ? s : one(96));
    if (chance(20)) return call("run", p, s);
    return call("stock", p, chance(95) ? s : one(96), chance(90) ? upTo(60) : -1 + upTo(1003));
  }

  private boolean votes() throws Exception {
    int l = laws > 0 && chance(80) ? laws - 1 : one(laws);
    boolean right = true;
    for (int i = 0; i < 4 && right; i++) right = call("vote", l, one(people), chance(85));
    return right && (chance(50) || call("close", l));
  }

  private boolean tryOut() throws Exception {
    switch (upTo(5)) {
      case 0: return call("prices", 1 + upTo(60), 1 + upTo(60), upTo(chance(90) ? 60 : 1002));
      case 1: return call("worst", chance(90) ? 1 + upTo(3) : upTo(5), upTo(40), upTo(40), upTo(chance(95) ? 40 : 502));
      case 2: return chance(40) ? call("planned", chance(95) ? 1 + upTo(2) : upTo(4), chance(95) ? upTo(4) : -1 + upTo(6)) : see();
      default:
        return call("tried", chance(50) ? 0 : upTo(chance(95) ? 80 : 1002), chance(50) ? -1 : -2 + upTo(104),
            chance(95) ? 1 + upTo(60) : upTo(106), -1 + upTo(8));
    }
  }

  private boolean picture() throws Exception {
    switch (upTo(4)) {
      case 0: return call("image");
      case 1: return call("number", one(96 + people));
      case 2: return call("tear", one(96 + people), chance(50) ? 1 << upTo(32) : dice.nextInt()) && call("check");
      default: return call("check");
    }
  }

  // ---- laws ----

  private boolean propose() throws Exception {
    String text = lawText();
    if (text.length() > 300) return true;
    byte[] bytes = Arrays.copyOf(text.getBytes(java.nio.charset.StandardCharsets.ISO_8859_1), (text.length() + 19) / 20 * 20);
    boolean right = true;
    for (int i = 0; i < bytes.length && right; i += 20) {
      right = call("feed", four(bytes, i), four(bytes, i + 4), four(bytes, i + 8), four(bytes, i + 12), four(bytes, i + 16));
    }
    if (chance(5)) return right;
    return right && call("law", chance(96) ? text.length() : upTo(310)) && call("fault");
  }

  private static int four(byte[] b, int i) {
    return b[i] << 24 | (b[i + 1] & 255) << 16 | (b[i + 2] & 255) << 8 | b[i + 3] & 255;
  }

  private String lawText() {
    StringBuilder t = new StringBuilder();
    int clauses = chance(95) ? 1 + upTo(4) : upTo(13);
    for (int i = 0; i < clauses; i++) {
      if (chance(20)) t.append("undo ").append(chance(70) ? "fall" : "stand");
      else t.append(name()).append(blank()).append('=').append(blank()).append(sum(chance(90) ? 3 : 12));
      t.append(blank()).append(';').append(blank());
    }
    if (t.length() > 0 && chance(12)) t.setCharAt(upTo(t.length()), chance(50) ? (char) upTo(256) : ";+-*/%(),[]<>= az09".charAt(upTo(19)));
    if (t.length() > 0 && chance(4)) t.deleteCharAt(upTo(t.length()));
    if (t.length() > 0 && chance(3)) t.setLength(upTo(t.length()));
    return t.toString();
  }

  private String name() {
    String[] all = {"price", "price", "price", "share", "wage", "run", "fine", "votes", "choice", "squat"};
    return all[upTo(all.length)];
  }

  private String blank() {
    return chance(80) ? "" : " ";
  }

  private String sum(int deep) {
    StringBuilder t = new StringBuilder(product(deep));
    while (chance(25)) t.append(blank()).append(chance(50) ? '+' : '-').append(product(deep));
    return t.toString();
  }

  private String product(int deep) {
    StringBuilder t = new StringBuilder(unit(deep));
    while (chance(15)) t.append("*/%".charAt(upTo(3))).append(blank()).append(unit(deep));
    return t.toString();
  }

  private String unit(int deep) {
    int which = deep <= 0 ? upTo(6) : upTo(11);
    if (which < 4) return blank() + (chance(97) ? upTo(40) : upTo(20000));
    if (which < 6) return blank() + new String[] {"week", "year", "sold", "people", "soil"}[upTo(5)];
    if (which < 8) return "(" + sum(deep - 1) + blank() + ")";
    if (which == 8) return "least(" + sum(deep - 1) + "," + sum(deep - 1) + ")";
    if (which == 9) return "most (" + sum(deep - 1) + "," + sum(deep - 1) + ")";
    return "if(" + any(deep - 1) + "," + sum(deep - 1) + "," + sum(deep - 1) + ")";
  }

  private String any(int deep) {
    StringBuilder t = new StringBuilder(test(deep));
    while (chance(25)) t.append(chance(50) ? " or " : " and ").append(test(deep));
    return t.toString();
  }

  private String test(int deep) {
    if (deep > 0 && chance(15)) return " not " + test(deep - 1);
    if (deep > 0 && chance(15)) return "[" + any(deep - 1) + "]";
    return sum(deep - 1) + "<>=".charAt(upTo(3)) + sum(deep - 1);
  }

  // ---- calls ----

  private boolean call(String name, Object... args) throws Exception {
    String a = answer(real, name, args);
    String b = answer(oracle, name, args);
    log.add(name + Arrays.toString(args) + " = " + a);
    if (!a.equals(b)) log.add("   .. but the oracle says " + b);
    people = real.count(1);
    parties = real.count(10);
    laws = real.count(7);
    bills = real.count(9);
    week = real.count(0);
    return a.equals(b);
  }

  private static String answer(Object on, String name, Object... args) throws Exception {
    Class<?>[] kinds = new Class<?>[args.length];
    for (int i = 0; i < args.length; i++) kinds[i] = args[i] instanceof Boolean ? boolean.class : int.class;
    Method m = on.getClass().getMethod(name, kinds);
    try {
      return String.valueOf(m.invoke(on, args));
    } catch (InvocationTargetException e) {
      return e.getCause().getClass().getName();
    }
  }
}
