import com.sun.source.tree.*;
import com.sun.source.util.JavacTask;
import com.sun.source.util.TreePath;
import com.sun.source.util.TreePathScanner;
import com.sun.source.util.Trees;
import java.io.IOException;
import java.net.URI;
import java.nio.file.Files;
import java.nio.file.Path;
import java.util.ArrayList;
import java.util.HashSet;
import java.util.LinkedHashMap;
import java.util.LinkedHashSet;
import java.util.List;
import java.util.Map;
import java.util.Set;
import java.util.TreeSet;
import javax.lang.model.element.Element;
import javax.lang.model.element.ExecutableElement;
import javax.lang.model.element.Modifier;
import javax.lang.model.element.TypeElement;
import javax.lang.model.element.VariableElement;
import javax.lang.model.type.ArrayType;
import javax.lang.model.type.TypeKind;
import javax.lang.model.type.TypeMirror;
import javax.tools.JavaCompiler;
import javax.tools.JavaFileObject;
import javax.tools.SimpleJavaFileObject;
import javax.tools.ToolProvider;

/**
 * The class held against each rule of LANGUAGE.md that a compiler's tree of it can tell. Small programs that break one rule each
 * show that the reader sees it. Where the class needs less than a rule leaves (no doubles, no lists, no casts of
 * references), the test asks for less too, and is to be widened with the class.
 */
public final class HaloTreesLanguage {
  private static final int MOST_PARAMETERS = 7, MOST_LINES = 60, MOST_DEEP = 8, MOST_CLASSES = 12, MOST_FIELDS = 20;
  private static final Set<String> LIBRARY = Set.of("Arrays.fill", "Arrays.copyOf", "Arrays.copyOfRange", "System.arraycopy",
      "Integer.bitCount", "Integer.compare", "Math.max", "Math.min", "Math.abs", "Math.floorMod", "Math.floorDiv", "Object.<init>");
  private static final Set<TypeKind> NUMBERS = Set.of(TypeKind.INT, TypeKind.LONG, TypeKind.SHORT, TypeKind.BYTE, TypeKind.CHAR);
  private static final Set<Tree.Kind> COMPARISONS = Set.of(Tree.Kind.LESS_THAN, Tree.Kind.LESS_THAN_EQUAL, Tree.Kind.GREATER_THAN,
      Tree.Kind.GREATER_THAN_EQUAL);

  /** What breaks a rule, as "rule n: ..", in the order in which it is met. */
  private static final class Reader extends TreePathScanner<Void, Void> {
    final Trees trees;
    final CompilationUnitTree unit;
    final Set<String> broken = new LinkedHashSet<>();
    final Map<ExecutableElement, Set<ExecutableElement>> calls = new LinkedHashMap<>();
    final Set<TypeElement> classes = new LinkedHashSet<>();
    ExecutableElement within = null;

    Reader(Trees trees, CompilationUnitTree unit) {
      this.trees = trees;
      this.unit = unit;
    }

    void require(boolean holds, int rule, String what) {
      if (!holds) broken.add("rule " + rule + ": " + what);
    }

    void rule(int rule, Tree tree) { require(false, rule, tree.getKind() + " in line " + line(start(tree))); }

    long start(Tree tree) { return trees.getSourcePositions().getStartPosition(unit, tree); }
    long end(Tree tree) { return trees.getSourcePositions().getEndPosition(unit, tree); }
    long line(long position) { return unit.getLineMap().getLineNumber(position); }
    TypeMirror type(Tree tree) { return trees.getTypeMirror(new TreePath(getCurrentPath(), tree)); }
    boolean isOwn(Element e) { return e instanceof TypeElement && trees.getPath(e) != null; }

    // ---- rules 1 and 2: classes

    @Override public Void visitClass(ClassTree tree, Void none) {
      TypeElement e = (TypeElement) trees.getElement(getCurrentPath());
      Tree parent = getCurrentPath().getParentPath().getLeaf();
      boolean isTop = parent.getKind() == Tree.Kind.COMPILATION_UNIT;
      classes.add(e);
      Set<Modifier> marks = e.getModifiers();
      if (isTop) {
        require(marks.contains(Modifier.PUBLIC) && marks.contains(Modifier.FINAL), 1, e + " is public and final");
      } else {
        require(parent instanceof ClassTree && marks.contains(Modifier.STATIC), 2, e + " is static and no local class");
        require(!marks.contains(Modifier.PUBLIC) && !marks.contains(Modifier.PROTECTED), 1, e + " is private or of the package");
      }
      int fields = 0;
      for (Element member : e.getEnclosedElements()) {
        if (member.getKind().isField() && !member.getModifiers().contains(Modifier.STATIC)) fields++;
      }
      require(fields <= MOST_FIELDS, 11, fields + " fields of " + e);
      return super.visitClass(tree, none);
    }

    @Override public Void visitLambdaExpression(LambdaExpressionTree tree, Void none) {
      rule(2, tree);
      return super.visitLambdaExpression(tree, none);
    }

    @Override public Void visitMemberReference(MemberReferenceTree tree, Void none) {
      rule(2, tree);
      return super.visitMemberReference(tree, none);
    }

    // ---- rules 3 and 5: types and static fields

    boolean isAllowed(TypeMirror type) {
      if (type.getKind() == TypeKind.ARRAY) {
        TypeMirror part = ((ArrayType) type).getComponentType();
        if (part.getKind() == TypeKind.ARRAY) return NUMBERS.contains(((ArrayType) part).getComponentType().getKind());
        return isAllowed(part) && !part.toString().equals("java.lang.String");
      }
      if (type.getKind() == TypeKind.DECLARED) {
        Element e = ((javax.lang.model.type.DeclaredType) type).asElement();
        return isOwn(e) || type.toString().equals("java.lang.String");
      }
      return NUMBERS.contains(type.getKind()) || type.getKind() == TypeKind.BOOLEAN || type.getKind() == TypeKind.VOID;
    }

    @Override public Void visitVariable(VariableTree tree, Void none) {
      VariableElement e = (VariableElement) trees.getElement(getCurrentPath());
      require(isAllowed(e.asType()), 3, "type " + e.asType() + " of " + e);
      if (e.getKind().isField() && e.getModifiers().contains(Modifier.STATIC)) {
        require(e.getModifiers().contains(Modifier.FINAL), 5, e + " is final");
        boolean isRow = tree.getInitializer() instanceof NewArrayTree row && row.getInitializers() != null;
        require(e.getConstantValue() != null || isRow, 5, e + " is a constant");
      }
      return super.visitVariable(tree, none);
    }

    @Override public Void visitBlock(BlockTree tree, Void none) {
      if (getCurrentPath().getParentPath().getLeaf() instanceof ClassTree) rule(5, tree);
      return super.visitBlock(tree, none);
    }

    // ---- rules 4 and 12: what is called and made

    @Override public Void visitMethodInvocation(MethodInvocationTree tree, Void none) {
      Element e = trees.getElement(getCurrentPath());
      if (e instanceof ExecutableElement called) noteCall(called);
      return super.visitMethodInvocation(tree, none);
    }

    private void noteCall(ExecutableElement called) {
      TypeElement owner = (TypeElement) called.getEnclosingElement();
      if (isOwn(owner)) {
        if (within != null) calls.get(within).add(called);
        boolean mayBeOverridden = !owner.getModifiers().contains(Modifier.FINAL) && !called.getModifiers().contains(Modifier.FINAL)
            && !called.getModifiers().contains(Modifier.PRIVATE) && !called.getModifiers().contains(Modifier.STATIC);
        require(!isInConstructor() || !mayBeOverridden, 12, "a constructor calls " + called);
        return;
      }
      String name = owner.getSimpleName() + "." + called.getSimpleName();
      require(LIBRARY.contains(name), 4, name);
    }

    private boolean isInConstructor() { return within != null && within.getSimpleName().contentEquals("<init>"); }

    @Override public Void visitNewClass(NewClassTree tree, Void none) {
      require(tree.getClassBody() == null, 2, "a class without a name in line " + line(start(tree)));
      ExecutableElement made = (ExecutableElement) trees.getElement(getCurrentPath());
      require(isOwn(made.getEnclosingElement()), 4, "new " + made.getEnclosingElement());
      if (within != null) calls.get(within).add(made);
      requireMadeOnce(tree);
      return super.visitNewClass(tree, none);
    }

    @Override public Void visitNewArray(NewArrayTree tree, Void none) {
      requireMadeOnce(tree);
      return super.visitNewArray(tree, none);
    }

    private void requireMadeOnce(Tree tree) {
      require(within == null || isInConstructor(), 12, "made outside of a constructor, line " + line(start(tree)));
    }

    @Override public Void visitIdentifier(IdentifierTree tree, Void none) {
      Tree parent = getCurrentPath().getParentPath().getLeaf();
      boolean isHandedOut = tree.getName().contentEquals("this") && !(parent instanceof MemberSelectTree);
      require(!isHandedOut || !isInConstructor(), 12, "a constructor hands out its object, line " + line(start(tree)));
      return super.visitIdentifier(tree, none);
    }

    // ---- rules 6 and 10

    @Override public Void visitThrow(ThrowTree tree, Void none) {
      rule(6, tree);
      return super.visitThrow(tree, none);
    }

    @Override public Void visitTry(TryTree tree, Void none) {
      rule(6, tree);
      return super.visitTry(tree, none);
    }

    @Override public Void visitSynchronized(SynchronizedTree tree, Void none) {
      rule(6, tree);
      return super.visitSynchronized(tree, none);
    }

    @Override public Void visitAssert(AssertTree tree, Void none) {
      rule(6, tree);
      return super.visitAssert(tree, none);
    }

    @Override public Void visitTypeCast(TypeCastTree tree, Void none) {
      if (!type(tree.getType()).getKind().isPrimitive()) rule(6, tree);
      return super.visitTypeCast(tree, none);
    }

    @Override public Void visitBinary(BinaryTree tree, Void none) {
      boolean ofTexts = isText(tree.getLeftOperand()) || isText(tree.getRightOperand());
      if (ofTexts && tree.getKind() == Tree.Kind.PLUS) rule(10, tree);
      if (ofTexts && (tree.getKind() == Tree.Kind.EQUAL_TO || tree.getKind() == Tree.Kind.NOT_EQUAL_TO)) rule(6, tree);
      return super.visitBinary(tree, none);
    }

    private boolean isText(Tree tree) {
      String name = String.valueOf(type(tree));
      return name.equals("java.lang.String") || name.equals("java.lang.Integer");
    }

    // ---- rules 1 and 11: methods

    @Override public Void visitMethod(MethodTree tree, Void none) {
      ExecutableElement e = (ExecutableElement) trees.getElement(getCurrentPath());
      ExecutableElement around = within;
      within = e;
      calls.putIfAbsent(e, new LinkedHashSet<>());
      require(tree.getParameters().size() <= MOST_PARAMETERS, 11, "parameters of " + e);
      require(end(tree) < 0 || line(end(tree)) - line(start(tree)) < MOST_LINES, 11, "lines of " + e);
      require(tree.getThrows().isEmpty(), 6, e + " throws");
      require(!Set.of("equals", "hashCode", "toString").contains(e.getSimpleName().toString()), 6, e + " of an own class");
      super.visitMethod(tree, none);
      within = around;
      return null;
    }

    // ---- rule 9: a counter that the condition compares and the loop changes

    @Override public Void visitForLoop(ForLoopTree tree, Void none) {
      requireCounter(tree, tree.getCondition());
      return super.visitForLoop(tree, none);
    }

    @Override public Void visitWhileLoop(WhileLoopTree tree, Void none) {
      requireCounter(tree, tree.getCondition());
      return super.visitWhileLoop(tree, none);
    }

    @Override public Void visitDoWhileLoop(DoWhileLoopTree tree, Void none) {
      requireCounter(tree, tree.getCondition());
      return super.visitDoWhileLoop(tree, none);
    }

    private void requireCounter(Tree loop, ExpressionTree condition) {
      Set<String> compared = new HashSet<>();
      collectCompared(condition, compared);
      Set<String> counted = new HashSet<>();
      new com.sun.source.util.TreeScanner<Void, Void>() {
        @Override public Void visitUnary(UnaryTree step, Void none) {
          counted.add(step.getExpression().toString());
          return super.visitUnary(step, none);
        }
      }.scan(loop, null);
      compared.retainAll(counted);
      if (compared.isEmpty()) rule(9, loop);
    }

    /** Parts of a condition that all must hold: one that stands beside an || bounds nothing. */
    private void collectCompared(ExpressionTree condition, Set<String> compared) {
      ExpressionTree bare = condition;
      while (bare instanceof ParenthesizedTree inner) bare = inner.getExpression();
      if (!(bare instanceof BinaryTree two)) return;
      if (two.getKind() == Tree.Kind.CONDITIONAL_AND) {
        collectCompared(two.getLeftOperand(), compared);
        collectCompared(two.getRightOperand(), compared);
      } else if (COMPARISONS.contains(two.getKind())) {
        compared.add(two.getLeftOperand().toString());
        compared.add(two.getRightOperand().toString());
      }
    }

    // ---- of the whole file

    void finish() {
      require(unit.getPackage() == null, 1, "no package line");
      require(unit.getTypeDecls().size() == 1, 1, "one class in the file");
      require(classes.size() <= MOST_CLASSES, 11, classes.size() + " classes");
      requireNamesApart();
      for (ExecutableElement e : calls.keySet()) {
        boolean callsItself = calls.get(e).contains(e);
        require(!callsItself || isGuarded(e), 8, e + " calls itself and is private, static and has a depth");
        require(deepest(e, new HashSet<>()) <= MOST_DEEP, 11, "calls below " + e + " go too deep");
      }
    }

    private void requireNamesApart() {
      Set<String> ofFace = new TreeSet<>();
      for (ExecutableElement e : calls.keySet()) if (isOfFace(e)) ofFace.add(e.getSimpleName().toString());
      for (ExecutableElement e : calls.keySet()) {
        boolean isConstructor = e.getSimpleName().contentEquals("<init>");
        require(isConstructor || isOfFace(e) || !ofFace.contains(e.getSimpleName().toString()), 1, e + " bears the name of a public one");
      }
    }

    private boolean isOfFace(ExecutableElement e) { return e.getModifiers().contains(Modifier.PUBLIC); }

    private boolean isGuarded(ExecutableElement e) {
      boolean hasDepth = false;
      for (VariableElement parameter : e.getParameters()) hasDepth |= parameter.getSimpleName().contentEquals("depth");
      return hasDepth && e.getModifiers().containsAll(Set.of(Modifier.PRIVATE, Modifier.STATIC));
    }

    /** How many methods stand open at once at most, one that calls itself counted once; too many where methods go round. */
    int deepest(ExecutableElement e, Set<ExecutableElement> open) {
      if (!open.add(e)) {
        require(false, 8, e + " comes to itself by others");
        return 0;
      }
      int below = 0;
      for (ExecutableElement called : calls.getOrDefault(e, Set.of())) {
        if (!called.equals(e)) below = Math.max(below, deepest(called, open));
      }
      open.remove(e);
      return below + 1;
    }
  }

  private static final class Source extends SimpleJavaFileObject {
    final String text;

    Source(String name, String text) {
      super(URI.create("string:///" + name + ".java"), JavaFileObject.Kind.SOURCE);
      this.text = text;
    }

    @Override public CharSequence getCharContent(boolean ignored) { return text; }
  }

  private static Reader read(String name, String text) throws IOException {
    JavaCompiler compiler = ToolProvider.getSystemJavaCompiler();
    JavacTask task = (JavacTask) compiler.getTask(null, null, d -> { }, List.of("-proc:none"), null, List.of(new Source(name, text)));
    CompilationUnitTree unit = task.parse().iterator().next();
    task.analyze();
    Reader reader = new Reader(Trees.instance(task), unit);
    reader.scan(new TreePath(unit), null);
    reader.finish();
    return reader;
  }

  // ---- that the reader sees what it should

  private static String deepRow(int methods) {
    StringBuilder row = new StringBuilder();
    for (int i = 0; i + 1 < methods; i++) row.append("private int m").append(i).append("() { return m").append(i + 1).append("(); } ");
    return row.append("private int m").append(methods - 1).append("() { return 0; }").toString();
  }

  private static String fields(int count) {
    StringBuilder row = new StringBuilder();
    for (int i = 0; i < count; i++) row.append("private int f").append(i).append("; ");
    return row.toString();
  }

  private static String classes(int count) {
    StringBuilder row = new StringBuilder();
    for (int i = 0; i < count; i++) row.append("private static final class C").append(i).append(" { } ");
    return row.toString();
  }

  /** A rule's number, 0 for none, and the body of a class that breaks it. */
  private static final String[][] BODIES = {
      {"0", "private int m(int v) { for (int i = 0; i < v; i++) { if (i > 9) { return i; } } return 0; }"},
      {"0", "private static int m(int depth) { return depth > 3 ? 0 : m(depth + 1); }"},
      {"0", deepRow(8)}, {"0", fields(20)}, {"0", classes(11)},
      {"0", "private int m(int a, int b, int c, int d, int e, int f, int g) { return 0; }"},
      {"0", "private int m() {" + "\n".repeat(59) + " return 0; }"},
      {"0", "private static final int[] ROW = {1, 2}; private final int[] row = new int[3];"},
      {"1", "public int m() { return 0; } private int m(int v) { return v; }"},
      {"1", "public static final class C { }"},
      {"2", "private final class C { }"},
      {"2", "private void m() { class C { } }"},
      {"2", "private interface I { int m(int v); } private final I i = v -> v;"},
      {"2", "private interface I { int m(int v); } private final I i = Math::abs;"},
      {"2", "private static class C { } private final C c = new C() { };"},
      {"3", "private final java.util.Map<Integer, Integer> map = null;"},
      {"3", "private final int[][][] rows = null;"},
      {"3", "private final Object o = null;"},
      {"4", "private long m() { return System.nanoTime(); }"},
      {"4", "private int m(int v) { return Math.addExact(v, v); }"},
      {"4", "private double m() { return Math.random(); }"},
      {"4", "private int m() { return new java.util.Random(5).nextInt(); }"},
      {"5", "private static int count = 0;"},
      {"5", "private static final int[] ROW = new int[3];"},
      {"5", "private static final int N; static { N = 3; }"},
      {"6", "private void m() { throw new IllegalStateException(); }"},
      {"6", "private int m(int v) { try { return 1 / v; } finally { } }"},
      {"6", "private synchronized void m() { synchronized (this) { } }"},
      {"6", "private void m(int v) { assert v > 0; }"},
      {"6", "private static class C { } private static final class D extends C { } private D m(C c) { return (D) c; }"},
      {"6", "private boolean m(String a, String b) { return a == b; }"},
      {"6", "@Override public int hashCode() { return 1; }"},
      {"6", "private void m() throws RuntimeException { }"},
      {"8", "private int m(int depth) { return depth > 3 ? 0 : m(depth + 1); }"},
      {"8", "private static int m(int v) { return v > 3 ? 0 : m(v + 1); }"},
      {"8", "private static int m(int v) { return n(v); } private static int n(int v) { return v > 3 ? 0 : m(v + 1); }"},
      {"9", "private void m() { while (true) { } }"},
      {"9", "private void m() { for (;;) { } }"},
      {"9", "private void m(int v) { int i = 0; while (i < 9) { v++; } }"},
      {"9", "private void m(int v) { int i = 0; while (i < 9 || v != 0) { i++; } }"},
      {"9", "private void m(boolean on) { int i = 0; do { i++; } while (on); }"},
      {"10", "private String m(String a) { return a + 1; }"},
      {"11", deepRow(9)}, {"11", fields(21)}, {"11", classes(12)},
      {"11", "private int m(int a, int b, int c, int d, int e, int f, int g, int h) { return 0; }"},
      {"11", "private int m() {" + "\n".repeat(60) + " return 0; }"},
      {"12", "private int[] m() { return new int[3]; }"},
      {"12", "private static final class C { } private C m() { return new C(); }"},
      {"12", "private static class C { C() { m(); } void m() { } }"},
      {"12", "private static final class D { D(C c) { } } private static final class C { final D d; C() { d = new D(this); } }"},
  };

  private static int checkReader() throws IOException {
    int wrong = 0;
    for (String[] body : BODIES) {
      Set<String> broken = read("Small", "public final class Small { " + body[1] + " }").broken;
      boolean seen = broken.stream().anyMatch(words -> words.startsWith("rule " + body[0] + ":"));
      if (body[0].equals("0") ? !broken.isEmpty() : !seen) {
        wrong++;
        System.out.println("rule " + body[0] + " is due of " + body[1].strip() + ", but the reader told " + broken);
      }
    }
    return wrong;
  }

  private static int checkHaloTrees() throws IOException {
    String text = Files.readString(Path.of("src/main/java/HaloTrees.java"));
    Reader reader = read("HaloTrees", text);
    List<String> broken = new ArrayList<>(reader.broken);
    if (!text.chars().allMatch(sign -> sign < 128)) broken.add("rule 4: a sign beyond 127");
    for (String words : broken) System.out.println("HaloTrees, " + words);
    int deepest = 0;
    for (ExecutableElement e : reader.calls.keySet()) deepest = Math.max(deepest, reader.deepest(e, new HashSet<>()));
    System.out.println(reader.classes.size() + " classes, " + reader.calls.size() + " methods, calls " + deepest + " deep at most");
    return broken.size();
  }

  public static void main(String[] args) throws IOException {
    int wrong = checkReader() + checkHaloTrees();
    System.out.println(wrong == 0 ? "the rules are kept" : wrong + " things are not so");
    if (wrong != 0) System.exit(1);
  }
}
