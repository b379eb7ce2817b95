import com.sun.source.tree.*;
import com.sun.source.util.JavacTask;
import com.sun.source.util.TreePath;
import com.sun.source.util.TreePathScanner;
import com.sun.source.util.Trees;
import java.io.File;
import java.util.ArrayDeque;
import java.util.ArrayList;
import java.util.Arrays;
import java.util.Deque;
import java.util.HashMap;
import java.util.HashSet;
import java.util.List;
import java.util.Map;
import java.util.Set;
import java.util.TreeSet;
import javax.lang.model.element.Element;
import javax.lang.model.element.ElementKind;
import javax.lang.model.element.ExecutableElement;
import javax.lang.model.element.Modifier;
import javax.lang.model.element.TypeElement;
import javax.tools.JavaCompiler;
import javax.tools.StandardJavaFileManager;
import javax.tools.ToolProvider;

/** Those rules of ../shared/LANGUAGE.md that can be seen in the source of SettlerColony.java. */
public final class LanguageTest {
  private static final String SOURCE = "src/main/java/SettlerColony.java";
  private static final Set<String> LIBRARY = new HashSet<>(Arrays.asList(
      "String.length", "String.charAt", "String.isEmpty", "String.equals", "String.indexOf", "String.substring",
      "String.toCharArray", "Math.min", "Math.max", "Math.abs", "Math.floorDiv", "Math.floorMod",
      "System.arraycopy", "Arrays.copyOf", "Arrays.copyOfRange", "Arrays.fill", "Object.clone", "Array.clone"));
  private static final Set<Tree.Kind> FORBIDDEN = new HashSet<>(Arrays.asList(
      Tree.Kind.LAMBDA_EXPRESSION, Tree.Kind.MEMBER_REFERENCE, Tree.Kind.ASSERT, Tree.Kind.SYNCHRONIZED,
      Tree.Kind.TRY, Tree.Kind.SWITCH_EXPRESSION));
  private static final int DEEP = 8;
  private static final int LINES = 60;

  private final CompilationUnitTree unit;
  private final Trees trees;
  private final Map<Element, Set<Element>> calls = new HashMap<>();
  private final Set<String> publicNames = new HashSet<>();
  private int wrong;

  private LanguageTest(CompilationUnitTree unit, Trees trees) {
    this.unit = unit;
    this.trees = trees;
  }

  public static void main(String[] args) throws Exception {
    JavaCompiler javac = ToolProvider.getSystemJavaCompiler();
    try (StandardJavaFileManager files = javac.getStandardFileManager(null, null, null)) {
      JavacTask task = (JavacTask) javac.getTask(null, files, null, List.of("-proc:none"), null,
          files.getJavaFileObjects(new File(SOURCE)));
      CompilationUnitTree unit = task.parse().iterator().next();
      task.analyze();
      LanguageTest test = new LanguageTest(unit, Trees.instance(task));
      test.look();
      if (test.wrong > 0) System.exit(1);
      System.out.println("the source keeps to what is looked at of LANGUAGE.md");
    }
  }

  private void say(Tree at, String what) {
    long place = trees.getSourcePositions().getStartPosition(unit, at);
    System.out.println("line " + unit.getLineMap().getLineNumber(place) + ": " + what);
    wrong++;
  }

  private void look() {
    if (unit.getPackageName() != null) say(unit, "rule head: a package line");
    for (ImportTree i : unit.getImports()) {
      String name = i.getQualifiedIdentifier().toString();
      if (!name.equals("java.util.Arrays") && !name.equals("java.util.ArrayList") && !name.equals("java.util.List")
          && !name.equals("java.util.NoSuchElementException")) say(i, "rule 4: import " + name);
    }
    if (unit.getTypeDecls().size() != 1) say(unit, "rule head: more than one class in the file");
    ClassTree top = (ClassTree) unit.getTypeDecls().get(0);
    lookAtFace(top);
    new Look().scan(unit, null);
    lookAtDepth();
  }

  private void lookAtFace(ClassTree top) {
    for (Tree member : top.getMembers()) {
      if (member instanceof MethodTree) {
        MethodTree m = (MethodTree) member;
        if (m.getModifiers().getFlags().contains(Modifier.PUBLIC)) publicNames.add(m.getName().toString());
      }
    }
    for (Tree member : top.getMembers()) {
      Set<Modifier> flags = member instanceof MethodTree ? ((MethodTree) member).getModifiers().getFlags()
          : member instanceof VariableTree ? ((VariableTree) member).getModifiers().getFlags() : null;
      if (flags != null && !flags.contains(Modifier.PUBLIC) && !flags.contains(Modifier.PRIVATE)) {
        say(member, "rule 1: neither public nor private");
      }
      if (flags != null && member instanceof VariableTree && flags.contains(Modifier.PUBLIC)
          && !((VariableTree) member).getName().contentEquals("NONE")) say(member, "rule 1: a public field");
    }
  }

  /** Goes over the whole tree: forbidden kinds, library calls, fields, parameters, lengths, and who calls whom. */
  private final class Look extends TreePathScanner<Void, Void> {
    private final Deque<Element> inside = new ArrayDeque<>();
    private int classes;

    @Override
    public Void scan(Tree tree, Void v) {
      if (tree != null && FORBIDDEN.contains(tree.getKind())) say(tree, "rules 2, 4, 6, 10: " + tree.getKind());
      return super.scan(tree, v);
    }

    @Override
    public Void visitClass(ClassTree c, Void v) {
      classes++;
      if (classes == 13) say(c, "rule 11: more than twelve classes");
      int fields = 0;
      for (Tree member : c.getMembers()) {
        if (member.getKind() == Tree.Kind.BLOCK) say(member, "rule 5: an initialiser block");
        if (!(member instanceof VariableTree)) continue;
        Set<Modifier> flags = ((VariableTree) member).getModifiers().getFlags();
        if (!flags.contains(Modifier.STATIC)) fields++;
        else if (!flags.contains(Modifier.FINAL)) say(member, "rule 5: a static field that is not final");
      }
      if (fields > 20) say(c, "rule 11: " + fields + " fields");
      boolean top = getCurrentPath().getParentPath().getLeaf() == unit;
      if (!top && !c.getModifiers().getFlags().contains(Modifier.STATIC)) say(c, "rule 1: a class inside is not static");
      return super.visitClass(c, v);
    }

    @Override
    public Void visitMethod(MethodTree m, Void v) {
      Element e = trees.getElement(getCurrentPath());
      calls.putIfAbsent(e, new HashSet<>());
      String name = m.getName().toString();
      boolean face = m.getModifiers().getFlags().contains(Modifier.PUBLIC);
      if (!face && !name.equals("<init>") && publicNames.contains(name)) say(m, "rule 1: " + name + " bears a public one's name");
      if (m.getParameters().size() > 7) say(m, "rule 11: " + m.getParameters().size() + " parameters");
      long from = trees.getSourcePositions().getStartPosition(unit, m);
      long to = trees.getSourcePositions().getEndPosition(unit, m);
      long lines = unit.getLineMap().getLineNumber(to) - unit.getLineMap().getLineNumber(from);
      if (lines > LINES) say(m, "rule 11: " + lines + " lines");
      inside.push(e);
      super.visitMethod(m, v);
      inside.pop();
      return null;
    }

    @Override
    public Void visitThrow(ThrowTree t, Void v) {
      if (!inside.isEmpty() && inside.peek().getKind() == ElementKind.CONSTRUCTOR) say(t, "rule 6: throw in a constructor");
      if (!(t.getExpression() instanceof NewClassTree)) say(t, "rule 6: not throw new");
      return super.visitThrow(t, v);
    }

    @Override
    public Void visitBinary(BinaryTree b, Void v) {
      if (b.getKind() == Tree.Kind.PLUS
          && trees.getTypeMirror(getCurrentPath()).toString().equals("java.lang.String")) say(b, "rule 10: a text joined by +");
      return super.visitBinary(b, v);
    }

    @Override
    public Void visitMethodInvocation(MethodInvocationTree call, Void v) {
      Element e = trees.getElement(new TreePath(getCurrentPath(), call.getMethodSelect()));
      if (e instanceof ExecutableElement) noteCall(call, e);
      return super.visitMethodInvocation(call, v);
    }

    private void noteCall(MethodInvocationTree call, Element e) {
      if (e.getSimpleName().contentEquals("<init>")) return;
      TypeElement owner = (TypeElement) e.getEnclosingElement();
      boolean own = trees.getTree(owner) != null;
      if (!own && !LIBRARY.contains(owner.getSimpleName() + "." + e.getSimpleName())) {
        say(call, "rule 4: " + owner.getSimpleName() + "." + e.getSimpleName());
      }
      if (!inside.isEmpty()) calls.computeIfAbsent(inside.peek(), k -> new HashSet<>()).add(e);
    }
  }

  // ---- rule 11: calls that are no recursion go at most eight deep ----

  private final Map<Element, Integer> group = new HashMap<>();
  private final Map<Integer, Integer> depth = new HashMap<>();
  private final Map<Integer, String> path = new HashMap<>();

  private void lookAtDepth() {
    findGroups();
    for (Element e : calls.keySet()) {
      if (!e.getModifiers().contains(Modifier.PUBLIC)) continue;
      int deep = depthOf(group.get(e));
      if (deep > DEEP) {
        System.out.println("rule 11: " + deep + " calls deep: " + path.get(group.get(e)));
        wrong++;
      }
    }
  }

  private Set<Element> reach(Element from) {
    Set<Element> seen = new HashSet<>();
    Deque<Element> todo = new ArrayDeque<>(calls.getOrDefault(from, Set.of()));
    while (!todo.isEmpty()) {
      Element e = todo.pop();
      if (seen.add(e)) todo.addAll(calls.getOrDefault(e, Set.of()));
    }
    return seen;
  }

  /** Methods that call one another are one group, counted once. */
  private void findGroups() {
    Map<Element, Set<Element>> reached = new HashMap<>();
    Set<Element> all = new HashSet<>(calls.keySet());
    calls.values().forEach(all::addAll);
    for (Element e : all) reached.put(e, reach(e));
    int next = 0;
    for (Element e : all) {
      if (group.containsKey(e)) continue;
      group.put(e, next);
      for (Element f : reached.get(e)) if (reached.get(f).contains(e)) group.put(f, next);
      next++;
    }
  }

  private int depthOf(int g) {
    if (depth.containsKey(g)) return depth.get(g);
    int most = 0;
    String below = "";
    Set<String> names = new TreeSet<>();
    List<Element> members = new ArrayList<>();
    for (Map.Entry<Element, Integer> e : group.entrySet()) if (e.getValue() == g) members.add(e.getKey());
    for (Element e : members) {
      names.add(e.getSimpleName().toString());
      for (Element f : calls.getOrDefault(e, Set.of())) {
        if (group.get(f) == g || depthOf(group.get(f)) <= most) continue;
        most = depthOf(group.get(f));
        below = path.get(group.get(f));
      }
    }
    depth.put(g, most + 1);
    path.put(g, names + " " + below);
    return most + 1;
  }
}
