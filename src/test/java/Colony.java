import java.nio.charset.StandardCharsets;
import java.util.Arrays;

/** Colonies to begin a test with. */
final class Colony {
  private Colony() {
  }

  /**
   * Lots 0 to lots - 1 (12 at most) are surveyed; so many farmers landed in WEEK 34 with so many COINS (less than 30:
   * then nobody buys of their own), with the ORDERS 0 on; it is WEEK 35.
   */
  static SettlerColony settled(int many, int coins, int lots) {
    SettlerColony x = new SettlerColony();
    x.party(9);
    for (int s = 0; s < lots; s++) x.queue(0, s);
    x.people(many, 0, coins + 20);
    for (int p = 0; p < many; p++) x.order(p);
    x.ship(0, 0, 0, 0);
    x.week(35);
    return x;
  }

  /**
   * A colony with some of all, in WEEK 35. PEOPLE: 0 has COUNTRY 0, ORDER 1 and asks; 1 RUN 2; 2 SQUAT 3 with STOCK; 3
   * asks; 4 and 5 are at HOME. LOTS 4 to 7; a PARTY on its way to 95; a LAW that is proposed, a BILL, RAIN, a TAPE.
   */
  static SettlerColony busy() {
    SettlerColony x = settled(4, 29, 8);
    x.buy(0, 0);
    x.choose(0, 1);
    x.run(1, 2);
    x.squat(2, 3);
    x.stock(2, 3, 3);
    x.ask(3);
    x.ask(0);
    x.people(2, 1, 40);
    x.queue(0, 95);
    law(x, "fine=2;");
    x.feed(1, 2, 3, 4, 5);
    x.bill(10);
    x.fund(3);
    x.rains(1, 7, 40);
    return x;
  }

  /**
   * So many PEOPLE (36 at most), each OWN by the SECTION of the own number, with so many COINS less 40; LOTS behind
   * these up to 35, SOIL 5; it is WEEK 36.
   */
  static SettlerColony owners(int many, int coins) {
    SettlerColony x = new SettlerColony();
    for (int p = 0; p < 4; p++) {
      x.party(9);
      for (int s = 0; s < 9; s++) x.queue(p, 9 * p + s);
    }
    x.people(many, 0, coins);
    for (int p = 0; p < many; p++) x.order(p);
    x.ship(0, 0, 0, 0);
    x.week(36);
    return x;
  }

  /** So many WEEKS, above 104, too. */
  static SettlerColony go(SettlerColony x, int weeks) {
    for (int left = weeks; left > 0; left -= 104) x.week(Math.min(104, left));
    return x;
  }

  /** Puts a text on the TAPE, filled up with 0 to a whole number of feeds. */
  static void feed(SettlerColony x, String text) {
    byte[] raw = text.getBytes(StandardCharsets.ISO_8859_1);
    byte[] b = Arrays.copyOf(raw, (raw.length + 19) / 20 * 20);
    for (int i = 0; i < b.length; i += 20) {
      x.feed(four(b, i), four(b, i + 4), four(b, i + 8), four(b, i + 12), four(b, i + 16));
    }
  }

  private static int four(byte[] b, int i) {
    return b[i] << 24 | (b[i + 1] & 255) << 16 | (b[i + 2] & 255) << 8 | b[i + 3] & 255;
  }

  static int law(SettlerColony x, String text) {
    feed(x, text);
    return x.law(text.length());
  }

  /** Proposes a LAW, lets PERSON 0 (who may vote) say yes, and closes it. */
  static int enact(SettlerColony x, String text) {
    int law = law(x, text);
    x.vote(law, 0, true);
    x.close(law);
    return law;
  }
}
