import com.sun.source.tree.AssertTree;
import com.sun.source.tree.BinaryTree;
import com.sun.source.tree.ClassTree;
import com.sun.source.tree.CompilationUnitTree;
import com.sun.source.tree.ImportTree;
import com.sun.source.tree.LambdaExpressionTree;
import com.sun.source.tree.MemberReferenceTree;
import com.sun.source.tree.MethodInvocationTree;
import com.sun.source.tree.MethodTree;
import com.sun.source.tree.NewClassTree;
import com.sun.source.tree.SynchronizedTree;
import com.sun.source.tree.ThrowTree;
import com.sun.source.tree.Tree;
import com.sun.source.tree.TryTree;
import com.sun.source.tree.VariableTree;
import com.sun.source.util.JavacTask;
import com.sun.source.util.TreePath;
import com.sun.source.util.TreePathScanner;
import com.sun.source.util.Trees;
import java.io.File;
import java.util.ArrayList;
import java.util.HashMap;
import java.util.HashSet;
import java.util.List;
import java.util.Map;
import java.util.Set;
import java.util.TreeSet;
import javax.lang.model.element.Element;
import javax.lang.model.element.ElementKind;
import javax.lang.model.element.ExecutableElement;
import javax.lang.model.element.Modifier;
import javax.tools.JavaCompiler;
import javax.tools.StandardJavaFileManager;
import javax.tools.ToolProvider;

/** The rules of LANGUAGE.md that the compiler's own tree of the source shows; the numbers in the texts are the rules'. */
public final class SortedPagesLanguage extends TreePathScanner<Void, Void> {
  private static final String SOURCE = "src/main/java/SortedPages.java";
  private static final int MOST_LINES = 60, MOST_PARAMETERS = 7, MOST_CLASSES = 12, MOST_FIELDS = 20, MOST_DEPTH = 8;
  /** The only calls of the library that the class makes; all stand in rule 4. */
  private static final Set<String> LIBRARY = Set.of("java.util.Arrays.fill", "java.lang.Math.max", "java.lang.Math.min",
    "java.lang.String.length", "java.lang.String.charAt");
  /** The one recursion: the depth is its argument, and ends it on the last of LEVELS. */
  private static final Set<String> RECURSION = Set.of("walkChildren(int,int,int,int) walk(int,int,int,int)");

  private static int wrong = 0;

  private final Trees trees;
  private final CompilationUnitTree unit;
  private final Map<Element, Set<Element>> calls = new HashMap<>();
  private final Set<Element> open = new HashSet<>();
  private int classes = 0;
  private Element method = null;

  private SortedPagesLanguage(Trees trees, CompilationUnitTree unit) {
    this.trees = trees;
    this.unit = unit;
  }

  private static void fault(String text) {
    wrong++;
    System.out.println(text);
  }

  private void faultAt(Tree tree, String text) {
    fault("line " + line(trees.getSourcePositions().getStartPosition(unit, tree)) + ": " + text);
  }

  private long line(long position) {
    return unit.getLineMap().getLineNumber(position);
  }

  // ---- what may not stand there

  @Override public Void visitThrow(ThrowTree tree, Void none) {
    faultAt(tree, "6: throw");
    return super.visitThrow(tree, none);
  }

  @Override public Void visitTry(TryTree tree, Void none) {
    faultAt(tree, "6: try");
    return super.visitTry(tree, none);
  }

  @Override public Void visitSynchronized(SynchronizedTree tree, Void none) {
    faultAt(tree, "6: synchronized");
    return super.visitSynchronized(tree, none);
  }

  @Override public Void visitAssert(AssertTree tree, Void none) {
    faultAt(tree, "6: assert");
    return super.visitAssert(tree, none);
  }

  @Override public Void visitLambdaExpression(LambdaExpressionTree tree, Void none) {
    faultAt(tree, "2: a lambda");
    return super.visitLambdaExpression(tree, none);
  }

  @Override public Void visitMemberReference(MemberReferenceTree tree, Void none) {
    faultAt(tree, "2: a method reference");
    return super.visitMemberReference(tree, none);
  }

  @Override public Void visitImport(ImportTree tree, Void none) {
    if (!tree.getQualifiedIdentifier().toString().equals("java.util.Arrays")) faultAt(tree, "4: " + tree);
    return null;
  }

  @Override public Void visitBinary(BinaryTree tree, Void none) {
    boolean joins = tree.getKind() == Tree.Kind.PLUS && trees.getTypeMirror(getCurrentPath()).toString().contains("String");
    if (joins) faultAt(tree, "10: texts joined by +");
    return super.visitBinary(tree, none);
  }

  @Override public Void visitNewClass(NewClassTree tree, Void none) {
    if (tree.getClassBody() != null) faultAt(tree, "2: an anonymous class");
    if (!method.getSimpleName().contentEquals("<init>")) faultAt(tree, "an object is made by a call, not by a constructor");
    return super.visitNewClass(tree, none);
  }

  // ---- classes, fields, methods

  @Override public Void visitClass(ClassTree tree, Void none) {
    classes++;
    if (classes > MOST_CLASSES) faultAt(tree, "11: too many classes");
    boolean outer = tree.getSimpleName().contentEquals("SortedPages");
    Set<Modifier> modifiers = tree.getModifiers().getFlags();
    if (!outer && (!modifiers.contains(Modifier.STATIC) || modifiers.contains(Modifier.PUBLIC))) faultAt(tree, "1, 2: an open or inner class");
    int fields = 0;
    for (Tree member : tree.getMembers()) {
      if (member.getKind() == Tree.Kind.BLOCK) faultAt(member, "5: an initialiser block");
      if (member instanceof VariableTree field) {
        boolean constant = field.getModifiers().getFlags().contains(Modifier.STATIC);
        if (constant && !field.getModifiers().getFlags().contains(Modifier.FINAL)) faultAt(field, "5: a static field that is not final");
        if (!constant) fields++;
      }
    }
    if (fields > MOST_FIELDS) faultAt(tree, "11: too many fields");
    return super.visitClass(tree, none);
  }

  /** What a field is given at first is made by the constructor. */
  @Override public Void visitVariable(VariableTree tree, Void none) {
    Element before = method;
    Element variable = trees.getElement(getCurrentPath());
    if (variable.getKind() == ElementKind.FIELD) method = constructor(variable.getEnclosingElement());
    super.visitVariable(tree, none);
    method = before;
    return null;
  }

  private static Element constructor(Element type) {
    for (Element member : type.getEnclosedElements()) if (member.getKind() == ElementKind.CONSTRUCTOR) return member;
    return type;
  }

  @Override public Void visitMethod(MethodTree tree, Void none) {
    method = trees.getElement(getCurrentPath());
    calls.computeIfAbsent(method, key -> new HashSet<>());
    if (method.getModifiers().contains(Modifier.PUBLIC)) open.add(method);
    long first = line(trees.getSourcePositions().getStartPosition(unit, tree));
    long last = line(trees.getSourcePositions().getEndPosition(unit, tree));
    if (last - first + 1 > MOST_LINES) faultAt(tree, "11: " + method + " is too long");
    if (tree.getParameters().size() > MOST_PARAMETERS) faultAt(tree, "11: " + method + " takes too much");
    super.visitMethod(tree, none);
    method = null;
    return null;
  }

  @Override public Void visitMethodInvocation(MethodInvocationTree tree, Void none) {
    Element called = trees.getElement(getCurrentPath());
    String owner = called.getEnclosingElement().toString();
    boolean own = owner.startsWith("SortedPages");
    boolean constructor = called.getKind() == ElementKind.CONSTRUCTOR;
    if (own && !constructor) calls.computeIfAbsent(method, key -> new HashSet<>()).add(called);
    if (!own && !constructor && !LIBRARY.contains(owner + "." + called.getSimpleName())) faultAt(tree, "4: " + owner + "." + called);
    return super.visitMethodInvocation(tree, none);
  }

  // ---- how deep calls go

  private int depth(Element from, List<Element> above) {
    if (above.contains(from)) {
      fault("8: a recursion that is not known: " + above + " and " + from);
      return 0;
    }
    int deepest = 0;
    for (Element called : calls.getOrDefault(from, Set.of())) {
      if (RECURSION.contains(from + " " + called)) continue;
      List<Element> row = new ArrayList<>(above);
      row.add(from);
      deepest = Math.max(deepest, depth(called, row));
    }
    return deepest + 1;
  }

  private void depths() {
    int deepest = 0;
    for (Element call : open) {
      int depth = depth(call, List.of());
      deepest = Math.max(deepest, depth);
      if (depth > MOST_DEPTH) fault("11: " + call + " goes " + depth + " deep");
    }
    System.out.println(classes + " classes, calls go " + deepest + " deep");
  }

  private void unused() {
    Set<Element> used = new HashSet<>(open);
    for (Set<Element> those : calls.values()) used.addAll(those);
    Set<String> idle = new TreeSet<>();
    for (Element each : calls.keySet()) {
      if (each instanceof ExecutableElement && each.getKind() == ElementKind.METHOD && !used.contains(each)) idle.add(each.toString());
    }
    if (!idle.isEmpty()) fault("methods that nothing calls: " + idle);
  }

  public static void main(String[] args) throws Exception {
    JavaCompiler compiler = ToolProvider.getSystemJavaCompiler();
    try (StandardJavaFileManager files = compiler.getStandardFileManager(null, null, null)) {
      JavacTask task = (JavacTask) compiler.getTask(null, files, null, List.of("-proc:none"), null, files.getJavaFileObjects(new File(SOURCE)));
      CompilationUnitTree unit = task.parse().iterator().next();
      task.analyze();
      if (unit.getPackage() != null) fault("the source has a package");
      SortedPagesLanguage rules = new SortedPagesLanguage(Trees.instance(task), unit);
      rules.scan(new TreePath(unit), null);
      rules.depths();
      rules.unused();
    }
    System.out.println(wrong == 0 ? "all is as due" : wrong + " are not as due");
    if (wrong != 0) System.exit(1);
  }
}
