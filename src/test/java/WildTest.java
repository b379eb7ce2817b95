import java.lang.reflect.InvocationTargetException;
import java.lang.reflect.Method;
import java.lang.reflect.Modifier;
import java.util.ArrayList;
import java.util.Arrays;
import java.util.Comparator;
import java.util.HashSet;
import java.util.List;
import java.util.Random;
import java.util.Set;

/** Calls with any arguments at all: nothing but the exceptions that each call names may come out of them. */
public final class WildTest {
  private static final int[] EDGES = {Integer.MIN_VALUE, Integer.MAX_VALUE, Integer.MIN_VALUE + 1, -2000000000, -2, -1, 0, 1, 2,
      3, 4, 5, 8, 11, 12, 13, 34, 52, 95, 96, 99, 100, 101, 103, 104, 105, 300, 500, 501, 999, 1000, 1001, 9999, 10000, 100000,
      1000000, 1000001, 479001600, 0x70726963, 0x653d313b, 0x756e646f, 0x2066616c, 0x6c3b2020};

  private WildTest() {
  }

  public static void main(String[] args) throws Exception {
    List<Method> face = face();
    for (long seed = 1; seed <= 400; seed++) run(face, new Random(seed));
    System.out.println("400 wild runs throw only what is promised");
  }

  private static List<Method> face() {
    List<Method> face = new ArrayList<>();
    for (Method m : SettlerColony.class.getDeclaredMethods()) if (Modifier.isPublic(m.getModifiers())) face.add(m);
    face.sort(Comparator.comparing(Method::getName));
    if (face.size() != 51) throw new IllegalStateException("the face has " + face.size() + " methods");
    return face;
  }

  private static void run(List<Method> face, Random dice) throws Exception {
    SettlerColony x = dice.nextBoolean() ? new SettlerColony() : Colony.settled(1 + dice.nextInt(20), dice.nextInt(30), 12);
    List<String> log = new ArrayList<>();
    for (int call = 0; call < 700; call++) {
      Method m = face.get(dice.nextInt(face.size()));
      Object[] args = new Object[m.getParameterCount()];
      for (int i = 0; i < args.length; i++) {
        args[i] = m.getParameterTypes()[i] == boolean.class ? dice.nextBoolean() : (Object) any(dice);
      }
      log.add(m.getName() + Arrays.toString(args));
      try {
        m.invoke(x, args);
      } catch (InvocationTargetException e) {
        look(m, e.getCause(), log);
      }
    }
  }

  private static int any(Random dice) {
    int which = dice.nextInt(10);
    if (which < 5) return dice.nextInt(13);
    if (which < 9) return EDGES[dice.nextInt(EDGES.length)];
    return dice.nextInt();
  }

  private static void look(Method m, Throwable thrown, List<String> log) {
    Set<Class<?>> promised = new HashSet<>(Arrays.asList(m.getExceptionTypes()));
    if (promised.contains(thrown.getClass())) return;
    for (String line : log) System.out.println(line);
    System.out.println("threw " + thrown);
    System.exit(1);
  }
}
