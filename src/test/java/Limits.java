import com.sun.source.tree.AssignmentTree;
import com.sun.source.tree.ClassTree;
import com.sun.source.tree.CompilationUnitTree;
import com.sun.source.tree.CompoundAssignmentTree;
import com.sun.source.tree.DoWhileLoopTree;
import com.sun.source.tree.ExpressionTree;
import com.sun.source.tree.ForLoopTree;
import com.sun.source.tree.IdentifierTree;
import com.sun.source.tree.MethodInvocationTree;
import com.sun.source.tree.MethodTree;
import com.sun.source.tree.NewArrayTree;
import com.sun.source.tree.NewClassTree;
import com.sun.source.tree.Tree;
import com.sun.source.tree.UnaryTree;
import com.sun.source.tree.WhileLoopTree;
import com.sun.source.util.JavacTask;
import com.sun.source.util.TreePath;
import com.sun.source.util.TreePathScanner;
import com.sun.source.util.TreeScanner;
import com.sun.source.util.Trees;
import java.io.IOException;
import java.lang.reflect.Array;
import java.lang.reflect.Field;
import java.lang.reflect.Modifier;
import java.nio.file.Path;
import java.util.ArrayDeque;
import java.util.ArrayList;
import java.util.Collections;
import java.util.IdentityHashMap;
import java.util.LinkedHashMap;
import java.util.LinkedHashSet;
import java.util.List;
import java.util.Map;
import java.util.Set;
import javax.lang.model.element.Element;
import javax.lang.model.element.ElementKind;
import javax.tools.JavaCompiler;
import javax.tools.StandardJavaFileManager;
import javax.tools.ToolProvider;

/**
 * The limits of LANGUAGE.md that need the compiler's own view of the class: how deep calls go, that
 * none leads back to itself, what loops count by; and how much of the room one object takes.
 */
public final class Limits {
  private static final int DEEPEST = 8, LONGEST = 60;
  private static final int OBJECTS = 200, ELEMENTS = 5000;
  private static int wrong = 0;

  private static void say(boolean well, String what) {
    if (!well) {
      wrong++;
      System.out.println(what);
    }
  }

  public static void main(String[] args) throws IOException {
    Path source = Path.of(args.length > 0 ? args[0] : "src/main/java/StampsCancel.java");
    JavaCompiler compiler = ToolProvider.getSystemJavaCompiler();
    Calls calls;
    try (StandardJavaFileManager files = compiler.getStandardFileManager(null, null, null)) {
      JavacTask task = (JavacTask) compiler.getTask(null, files, null, List.of("-proc:none"), null, files.getJavaFileObjects(source));
      CompilationUnitTree unit = task.parse().iterator().next();
      task.analyze();
      calls = new Calls(Trees.instance(task), unit);
      calls.scan(unit, null);
    }
    int deepest = calls.deepest();
    say(calls.of.size() > 100, "only " + calls.of.size() + " methods were seen");
    say(deepest <= DEEPEST, "calls go " + deepest + " deep");
    lookAtRoom(new StampsCancel());
    System.out.println("calls go " + deepest + " deep, " + wrong + " limits are broken");
    if (wrong != 0) System.exit(1);
  }

  /** What each method and constructor calls, the library's among them. */
  private static final class Calls extends TreePathScanner<Void, Void> {
    final Map<Element, Set<Element>> of = new LinkedHashMap<>();
    private final Map<Element, Integer> depths = new LinkedHashMap<>();
    private final Set<Element> open = new LinkedHashSet<>();
    private final Trees trees;
    private final CompilationUnitTree unit;

    Calls(Trees trees, CompilationUnitTree unit) {
      this.trees = trees;
      this.unit = unit;
    }

    @Override
    public Void visitMethod(MethodTree m, Void v) {
      of.computeIfAbsent(trees.getElement(getCurrentPath()), k -> new LinkedHashSet<>());
      long lines = line(trees.getSourcePositions().getEndPosition(unit, m)) - line(trees.getSourcePositions().getStartPosition(unit, m)) + 1;
      say(lines <= LONGEST, m.getName() + " has " + lines + " lines");
      return super.visitMethod(m, v);
    }

    @Override
    public Void visitMethodInvocation(MethodInvocationTree call, Void v) {
      add(trees.getElement(getCurrentPath()));
      return super.visitMethodInvocation(call, v);
    }

    @Override
    public Void visitNewClass(NewClassTree made, Void v) {
      add(trees.getElement(getCurrentPath()));
      sayWhereMade(made);
      return super.visitNewClass(made, v);
    }

    @Override
    public Void visitNewArray(NewArrayTree made, Void v) {
      sayWhereMade(made);
      return super.visitNewArray(made, v);
    }

    @Override
    public Void visitWhileLoop(WhileLoopTree loop, Void v) {
      say(false, "line " + lineOf(loop) + ": a loop that counts nothing");
      return super.visitWhileLoop(loop, v);
    }

    @Override
    public Void visitDoWhileLoop(DoWhileLoopTree loop, Void v) {
      say(false, "line " + lineOf(loop) + ": a loop that counts nothing");
      return super.visitDoWhileLoop(loop, v);
    }

    /** A loop has one counter that moves in its head, and nowhere else, and that its bound looks at. */
    @Override
    public Void visitForLoop(ForLoopTree loop, Void v) {
      say(loop.getUpdate().size() == 1 && loop.getCondition() != null, "line " + lineOf(loop) + ": a loop without a counter or a bound");
      if (loop.getUpdate().size() == 1 && loop.getCondition() != null) {
        String counter = counterOf(loop.getUpdate().get(0).getExpression());
        boolean bounded = loop.getCondition().toString().matches("(?s).*\\b" + counter + "\\b.*(<|>).*");
        say(bounded, "line " + lineOf(loop) + ": " + counter + " has no bound");
        say(!moves(loop.getStatement(), counter), "line " + lineOf(loop) + ": " + counter + " moves within the loop");
      }
      return super.visitForLoop(loop, v);
    }

    private static String counterOf(ExpressionTree step) {
      if (step instanceof UnaryTree) return ((UnaryTree) step).getExpression().toString();
      if (step instanceof CompoundAssignmentTree) return ((CompoundAssignmentTree) step).getVariable().toString();
      return step.toString();
    }

    private static boolean moves(Tree body, String counter) {
      boolean[] moved = {false};
      new TreeScanner<Void, Void>() {
        private void look(ExpressionTree e) {
          moved[0] |= e instanceof IdentifierTree && e.toString().equals(counter);
        }

        @Override
        public Void visitAssignment(AssignmentTree a, Void v) {
          look(a.getVariable());
          return super.visitAssignment(a, v);
        }

        @Override
        public Void visitCompoundAssignment(CompoundAssignmentTree a, Void v) {
          look(a.getVariable());
          return super.visitCompoundAssignment(a, v);
        }

        @Override
        public Void visitUnary(UnaryTree u, Void v) {
          boolean steps = u.getKind().name().contains("CREMENT");
          if (steps) look(u.getExpression());
          return super.visitUnary(u, v);
        }
      }.scan(body, null);
      return moved[0];
    }

    /** The room of a run is small: only constructors make something, their fields' initialisers among them. */
    private void sayWhereMade(Tree made) {
      Element method = method();
      boolean well = method == null || method.getKind() == ElementKind.CONSTRUCTOR;
      say(well, "line " + lineOf(made) + ": " + method + " makes an object");
    }

    private void add(Element called) {
      Element method = method();
      if (method != null) {
        of.computeIfAbsent(method, k -> new LinkedHashSet<>()).add(called);
        return;
      }
      for (Element member : trees.getElement(classPath()).getEnclosedElements()) {
        if (member.getKind() == ElementKind.CONSTRUCTOR) of.computeIfAbsent(member, k -> new LinkedHashSet<>()).add(called);
      }
    }

    /** Where one is; null within a field's initialiser. */
    private Element method() {
      for (TreePath p = getCurrentPath(); p != null && !(p.getLeaf() instanceof ClassTree); p = p.getParentPath()) {
        if (p.getLeaf() instanceof MethodTree) return trees.getElement(p);
      }
      return null;
    }

    private TreePath classPath() {
      TreePath p = getCurrentPath();
      while (!(p.getLeaf() instanceof ClassTree)) p = p.getParentPath();
      return p;
    }

    private long line(long position) {
      return unit.getLineMap().getLineNumber(position);
    }

    private long lineOf(Tree tree) {
      return line(trees.getSourcePositions().getStartPosition(unit, tree));
    }

    int deepest() {
      int deepest = 0;
      for (Element method : of.keySet()) {
        int depth = depth(method);
        say(depth <= DEEPEST, method.getEnclosingElement() + "." + method + " goes " + depth + " deep");
        deepest = Math.max(deepest, depth);
      }
      return deepest;
    }

    private int depth(Element method) {
      if (depths.containsKey(method)) return depths.get(method);
      if (!open.add(method)) {
        say(false, method.getEnclosingElement() + "." + method + " leads back to itself");
        return 1000;
      }
      int depth = 0;
      for (Element called : of.getOrDefault(method, Set.of())) depth = Math.max(depth, depth(called));
      open.remove(method);
      depths.put(method, depth + 1);
      return depth + 1;
    }
  }

  /** Counts as the room does: an object or array by its fields or elements. */
  private static void lookAtRoom(Object made) {
    Set<Object> seen = Collections.newSetFromMap(new IdentityHashMap<>());
    ArrayDeque<Object> queue = new ArrayDeque<>(List.of(made));
    seen.add(made);
    long elements = 0;
    while (!queue.isEmpty()) {
      Object o = queue.remove();
      for (Object part : partsOf(o)) {
        elements++;
        boolean reference = part != null && (part.getClass().isArray() || part.getClass().getName().startsWith("StampsCancel"));
        if (reference && seen.add(part)) queue.add(part);
      }
    }
    System.out.println("a new object takes " + seen.size() + " objects and arrays, " + elements + " fields and elements");
    say(seen.size() <= OBJECTS && elements <= ELEMENTS, "a new object takes too much of the room");
  }

  private static List<Object> partsOf(Object o) {
    List<Object> parts = new ArrayList<>();
    if (o.getClass().isArray()) {
      for (int i = 0; i < Array.getLength(o); i++) parts.add(Array.get(o, i));
      return parts;
    }
    for (Field f : o.getClass().getDeclaredFields()) {
      if (Modifier.isStatic(f.getModifiers())) continue;
      try {
        f.setAccessible(true);
        parts.add(f.get(o));
      } catch (IllegalAccessException e) {
        say(false, f + " cannot be looked at");
      }
    }
    return parts;
  }
}
