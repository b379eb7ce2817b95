import java.io.IOException;
import java.lang.reflect.Constructor;
import java.lang.reflect.Field;
import java.lang.reflect.Member;
import java.lang.reflect.Method;
import java.lang.reflect.Modifier;
import java.nio.file.Files;
import java.nio.file.Path;
import java.util.ArrayList;
import java.util.Arrays;
import java.util.List;
import java.util.Set;
import java.util.TreeSet;
import java.util.regex.Matcher;
import java.util.regex.Pattern;

/** The face that the document writes out: the class has it, to the word, and nothing more that can be seen. */
public final class FaceTest {
  private static final Path DOCUMENT = Path.of("../shared/DOC.md");
  private static final Pattern CALL = Pattern.compile("public (\\w+) (\\w+)\\((.*?)\\)(?: throws (.*))?;");

  private final Class<?> kind = SettlerColony.class;
  private int wrong;

  private FaceTest() {
  }

  public static void main(String[] args) throws IOException, ReflectiveOperationException {
    FaceTest test = new FaceTest();
    Set<String> written = written();
    test.same("the document's face has 51 calls", written.size(), 51);
    Set<String> seen = test.seen();
    test.same("calls that only the document has", less(written, seen), Set.of());
    test.same("calls that only the class has", less(seen, written), Set.of());
    test.lookAtClass();
    test.lookAtHidden();
    if (test.wrong > 0) System.exit(1);
    System.out.println("FaceTest: " + written.size() + " calls as the document writes them");
  }

  private void same(String what, Object got, Object want) {
    if (got.equals(want)) return;
    System.out.println("FaceTest: " + what + ": is " + got + ", due is " + want);
    wrong++;
  }

  private static Set<String> less(Set<String> from, Set<String> others) {
    Set<String> rest = new TreeSet<>(from);
    rest.removeAll(others);
    return rest;
  }

  /** The calls of the document's block, without the names of what they take. */
  private static Set<String> written() throws IOException {
    String text = Files.readString(DOCUMENT);
    int from = text.indexOf("```java", text.indexOf("## The public face"));
    Set<String> calls = new TreeSet<>();
    for (String line : text.substring(from, text.indexOf("```", from + 3)).split("\n")) {
      Matcher m = CALL.matcher(line.trim());
      if (!m.matches()) continue;
      List<String> kinds = new ArrayList<>();
      for (String one : m.group(3).split(", ")) if (!one.isEmpty()) kinds.add(one.split(" ")[0]);
      Set<String> thrown = new TreeSet<>();
      if (m.group(4) != null) thrown.addAll(Arrays.asList(m.group(4).split(", ")));
      calls.add(m.group(1) + " " + m.group(2) + kinds + " throws " + thrown);
    }
    return calls;
  }

  private Set<String> seen() {
    Set<String> calls = new TreeSet<>();
    for (Method m : kind.getDeclaredMethods()) {
      if (!Modifier.isPublic(m.getModifiers())) continue;
      same(m.getName() + " is of an object", Modifier.isStatic(m.getModifiers()), false);
      List<String> kinds = new ArrayList<>();
      for (Class<?> one : m.getParameterTypes()) kinds.add(one.getName());
      Set<String> thrown = new TreeSet<>();
      for (Class<?> one : m.getExceptionTypes()) thrown.add(one.getSimpleName());
      calls.add(m.getReturnType().getName() + " " + m.getName() + kinds + " throws " + thrown);
    }
    return calls;
  }

  private void lookAtClass() throws ReflectiveOperationException {
    same("public and final", kind.getModifiers() & (Modifier.PUBLIC | Modifier.FINAL), Modifier.PUBLIC | Modifier.FINAL);
    same("package", kind.getPackageName(), "");
    same("what it is built on", kind.getSuperclass(), Object.class);
    same("interfaces", kind.getInterfaces().length, 0);
    Constructor<?>[] made = kind.getDeclaredConstructors();
    same("constructors", made.length, 1);
    same("constructor", kind.getConstructor().getExceptionTypes().length, 0);
    Field none = kind.getField("NONE");
    int flags = Modifier.PUBLIC | Modifier.STATIC | Modifier.FINAL;
    same("NONE's flags", none.getModifiers(), flags);
    same("NONE's type", none.getType(), int.class);
    same("NONE", none.getInt(null), -1);
  }

  /** Nothing but the face is public, protected or package-visible; classes inside may be the last, and are static. */
  private void lookAtHidden() {
    for (Field f : kind.getDeclaredFields()) if (!f.getName().equals("NONE")) needPrivate(f);
    for (Method m : kind.getDeclaredMethods()) if (!Modifier.isPublic(m.getModifiers())) needPrivate(m);
    for (Class<?> inner : kind.getDeclaredClasses()) {
      same(inner + " is static", Modifier.isStatic(inner.getModifiers()), true);
      same(inner + " is hidden", inner.getModifiers() & (Modifier.PUBLIC | Modifier.PROTECTED), 0);
    }
  }

  private void needPrivate(Member member) {
    if (!member.isSynthetic()) same(member + " is private", Modifier.isPrivate(member.getModifiers()), true);
  }
}
