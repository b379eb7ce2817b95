import java.io.IOException;
import java.lang.reflect.InvocationTargetException;
import java.lang.reflect.Method;
import java.lang.reflect.Modifier;
import java.nio.file.Files;
import java.nio.file.Path;
import java.util.ArrayList;
import java.util.List;
import java.util.Map;
import java.util.Set;
import java.util.TreeMap;
import java.util.TreeSet;
import java.util.regex.Matcher;
import java.util.regex.Pattern;

/** README.md: its examples answer as they say, and its table has every call of the face with what it throws. */
public final class ReadmeTest {
  private static final Pattern LINE = Pattern.compile("x\\.(\\w+)\\((.*?)\\); +// (-?\\d+):? .*");
  private static final Pattern ROW = Pattern.compile("\\| `(\\w+)\\((.*?)\\)` \\|.*\\|([^|]*)\\|");
  private static final String NEW = "SettlerColony x = new SettlerColony();";

  private final Due due = new Due("ReadmeTest");
  private final Map<String, Method> face = new TreeMap<>();
  private SettlerColony x;
  private int answers;

  private ReadmeTest() {
    for (Method m : SettlerColony.class.getDeclaredMethods()) {
      if (Modifier.isPublic(m.getModifiers())) face.put(m.getName(), m);
    }
  }

  public static void main(String[] args) throws IOException, ReflectiveOperationException {
    ReadmeTest test = new ReadmeTest();
    Set<String> rows = new TreeSet<>();
    for (String line : Files.readAllLines(Path.of("README.md"))) {
      if (line.equals(NEW)) test.x = new SettlerColony();
      else if (line.startsWith("x.")) test.run(line);
      Matcher row = ROW.matcher(line);
      if (row.matches() && rows.add(row.group(1))) test.look(row);
    }
    test.due.is("some examples answer", test.answers > 8, true);
    test.due.is("every call has a row", rows.equals(test.face.keySet()), true);
    test.due.end();
  }

  /** A line of an example: a call, and behind // what it answers. */
  private void run(String line) throws ReflectiveOperationException {
    Matcher m = LINE.matcher(line);
    due.is(line + " tells an answer", m.matches() && x != null && face.containsKey(m.group(1)), true);
    if (!m.matches() || x == null || !face.containsKey(m.group(1))) return;
    String[] told = m.group(2).isEmpty() ? new String[0] : m.group(2).split(", ");
    Object[] args = new Object[told.length];
    for (int i = 0; i < told.length; i++) args[i] = read(told[i]);
    answers++;
    try {
      due.is(line, (Integer) face.get(m.group(1)).invoke(x, args), Integer.parseInt(m.group(3)));
    } catch (InvocationTargetException e) {
      due.is(line + " threw " + e.getCause(), false, true);
    }
  }

  private static Object read(String word) {
    if (word.equals("true") || word.equals("false")) return word.equals("true");
    return word.equals("SettlerColony.NONE") ? SettlerColony.NONE : (Object) Integer.parseInt(word);
  }

  /** A row of the table: a call with all that it takes, and what it throws. */
  private void look(Matcher row) {
    Method call = face.get(row.group(1));
    due.is(row.group(1) + " is a call", call != null, true);
    if (call == null) return;
    int takes = row.group(2).isEmpty() ? 0 : row.group(2).split(", ").length;
    due.is(row.group(1) + " takes", takes, call.getParameterCount());
    List<String> thrown = new ArrayList<>();
    for (Class<?> e : call.getExceptionTypes()) {
      String name = e.getSimpleName();
      thrown.add(name.startsWith("Index") ? "index" : name.startsWith("IllegalA") ? "argument" : "state");
    }
    due.is(row.group(1) + " throws as its row says", row.group(3).trim().equals(String.join(", ", thrown)), true);
  }
}
