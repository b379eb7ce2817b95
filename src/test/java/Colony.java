import java.nio.charset.StandardCharsets;
import java.util.Arrays;

/** Colonies to begin a test with. */
final class Colony {
  private Colony() {
  }

  /**
   * Lots 0 to lots - 1 (12 at most) are surveyed; so many farmers landed in WEEK 34 with so many COINS (less than 30:
   * then nobody buys of their own), with the ORDERS 0 on; it is WEEK 35.
   */
  static SettlerColony settled(int many, int coins, int lots) {
    SettlerColony x = new SettlerColony();
    x.party(9);
    for (int s = 0; s < lots; s++) x.queue(0, s);
    x.people(many, 0, coins + 20);
    for (int p = 0; p < many; p++) x.order(p);
    x.ship(0, 0, 0, 0);
    x.week(35);
    return x;
  }

  /** Puts a text on the TAPE, filled up with 0 to a whole number of feeds. */
  static void feed(SettlerColony x, String text) {
    byte[] raw = text.getBytes(StandardCharsets.ISO_8859_1);
    byte[] b = Arrays.copyOf(raw, (raw.length + 19) / 20 * 20);
    for (int i = 0; i < b.length; i += 20) {
      x.feed(four(b, i), four(b, i + 4), four(b, i + 8), four(b, i + 12), four(b, i + 16));
    }
  }

  private static int four(byte[] b, int i) {
    return b[i] << 24 | (b[i + 1] & 255) << 16 | (b[i + 2] & 255) << 8 | b[i + 3] & 255;
  }

  static int law(SettlerColony x, String text) {
    feed(x, text);
    return x.law(text.length());
  }

  /** Proposes a LAW, lets PERSON 0 (who may vote) say yes, and closes it. */
  static int enact(SettlerColony x, String text) {
    int law = law(x, text);
    x.vote(law, 0, true);
    x.close(law);
    return law;
  }
}
