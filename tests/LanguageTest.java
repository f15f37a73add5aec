import com.sun.source.tree.AssertTree;
import com.sun.source.tree.BinaryTree;
import com.sun.source.tree.BlockTree;
import com.sun.source.tree.ClassTree;
import com.sun.source.tree.CompilationUnitTree;
import com.sun.source.tree.DoWhileLoopTree;
import com.sun.source.tree.ExpressionTree;
import com.sun.source.tree.ForLoopTree;
import com.sun.source.tree.ImportTree;
import com.sun.source.tree.LambdaExpressionTree;
import com.sun.source.tree.LiteralTree;
import com.sun.source.tree.MemberReferenceTree;
import com.sun.source.tree.MethodInvocationTree;
import com.sun.source.tree.MethodTree;
import com.sun.source.tree.NewArrayTree;
import com.sun.source.tree.NewClassTree;
import com.sun.source.tree.SynchronizedTree;
import com.sun.source.tree.ThrowTree;
import com.sun.source.tree.Tree;
import com.sun.source.tree.TryTree;
import com.sun.source.tree.TypeCastTree;
import com.sun.source.tree.VariableTree;
import com.sun.source.tree.WhileLoopTree;
import com.sun.source.util.JavacTask;
import com.sun.source.util.TreePath;
import com.sun.source.util.TreePathScanner;
import com.sun.source.util.Trees;
import java.util.LinkedHashMap;
import java.util.List;
import java.util.Map;
import java.util.Set;
import java.util.TreeSet;
import javax.lang.model.element.Element;
import javax.lang.model.element.Modifier;
import javax.lang.model.element.TypeElement;
import javax.lang.model.element.VariableElement;
import javax.lang.model.type.TypeMirror;
import javax.tools.JavaCompiler;
import javax.tools.StandardJavaFileManager;
import javax.tools.ToolProvider;

/** What can be seen of LANGUAGE.md's rules in the class as javac reads it. */
public final class LanguageTest {
  private static final int MOST_PARAMETERS = 7;
  private static final int MOST_LINES = 60;
  private static final int MOST_DEPTH = 8;
  private static final int MOST_CLASSES = 12;
  private static final int MOST_FIELDS = 20;
  private static final Set<String> LIBRARY = Set.of("java.lang.Math.min", "java.lang.Math.floorMod",
      "java.lang.Integer.bitCount", "java.lang.System.arraycopy", "java.lang.String.length", "java.lang.String.charAt",
      "java.lang.Object.<init>");

  private final Due due = new Due();
  private final Map<String, Set<String>> calls = new LinkedHashMap<>();
  private int classes = 0;
  private int methods = 0;

  public static void main(String[] args) throws Exception {
    LanguageTest test = new LanguageTest();
    test.readClass();
    test.callsAreFewDeep();
    test.due.is("classes", test.classes <= MOST_CLASSES ? 1 : 0, 1);
    test.due.is("methods were seen", test.methods > 44 ? 1 : 0, 1);
    test.due.end();
  }

  private void readClass() throws Exception {
    JavaCompiler compiler = ToolProvider.getSystemJavaCompiler();
    try (StandardJavaFileManager files = compiler.getStandardFileManager(null, null, null)) {
      JavacTask task = (JavacTask) compiler.getTask(null, files, null, List.of("-proc:none"), null,
          files.getJavaFileObjects("src/main/java/TollSills.java"));
      Iterable<? extends CompilationUnitTree> units = task.parse();
      task.analyze();
      for (CompilationUnitTree unit : units) {
        due.is("rule 1: no package", unit.getPackageName() == null ? 1 : 0, 1);
        due.is("rule 1: one class", unit.getTypeDecls().size(), 1);
        new Reader(unit, Trees.instance(task)).scan(unit, null);
      }
    }
  }

  private void callsAreFewDeep() {
    for (String method : calls.keySet()) {
      int depth = depth(method, 1);
      due.is("rules 8, 11: " + method + " goes at most eight deep", depth <= MOST_DEPTH ? 0 : depth, 0);
    }
  }

  /** How many calls stand open at most; one that comes back to itself runs into the bound. */
  private int depth(String method, int open) {
    int most = open;
    if (open <= MOST_DEPTH) {
      for (String next : calls.getOrDefault(method, Set.of())) {
        most = Math.max(most, depth(next, open + 1));
      }
    }
    return most;
  }

  private final class Reader extends TreePathScanner<Void, Void> {
    private final CompilationUnitTree unit;
    private final Trees trees;
    private String method = "";

    Reader(CompilationUnitTree unit, Trees trees) {
      this.unit = unit;
      this.trees = trees;
    }

    private long line(long position) {
      return unit.getLineMap().getLineNumber(position);
    }

    private long begin(Tree tree) {
      return line(trees.getSourcePositions().getStartPosition(unit, tree));
    }

    private long end(Tree tree) {
      return line(trees.getSourcePositions().getEndPosition(unit, tree));
    }

    private void ruledOut(String rule, Tree tree) {
      due.is("line " + begin(tree) + ", " + rule, 1, 0);
    }

    private Element element() {
      return trees.getElement(getCurrentPath());
    }

    private static String name(Element element) {
      return ((TypeElement) element.getEnclosingElement()).getQualifiedName() + "." + element.getSimpleName();
    }

    @Override
    public Void visitImport(ImportTree tree, Void none) {
      ruledOut("rule 4: the library", tree);
      return super.visitImport(tree, none);
    }

    @Override
    public Void visitClass(ClassTree tree, Void none) {
      classes++;
      Set<Modifier> modifiers = tree.getModifiers().getFlags();
      boolean outer = getCurrentPath().getParentPath().getLeaf() == unit;
      due.is("rule 2: " + tree.getSimpleName() + " is static", outer || modifiers.contains(Modifier.STATIC) ? 1 : 0, 1);
      int fields = 0;
      for (Tree member : tree.getMembers()) {
        due.is("rule 5: no initialiser block", member instanceof BlockTree ? 1 : 0, 0);
        if (member instanceof VariableTree field && !field.getModifiers().getFlags().contains(Modifier.STATIC)) {
          fields++;
        }
      }
      due.is("rule 11: fields of " + tree.getSimpleName(), fields <= MOST_FIELDS ? 0 : fields, 0);
      return super.visitClass(tree, none);
    }

    @Override
    public Void visitVariable(VariableTree tree, Void none) {
      Element variable = element();
      isKnown(tree, variable.asType());
      if (variable.getModifiers().contains(Modifier.STATIC)) {
        boolean constant = variable.getModifiers().contains(Modifier.FINAL)
            && ((VariableElement) variable).getConstantValue() != null;
        due.is("rule 5: " + tree.getName() + " is a constant", constant ? 1 : 0, 1);
      }
      return super.visitVariable(tree, none);
    }

    private void isKnown(Tree tree, TypeMirror type) {
      String told = type.toString();
      boolean known = told.equals("int") || told.equals("long") || told.equals("boolean") || told.equals("int[]")
          || told.equals("void") || told.equals("java.lang.String") || told.startsWith("TollSills.");
      due.is("line " + begin(tree) + ", rule 3: " + told, known ? 1 : 0, 1);
    }

    @Override
    public Void visitMethod(MethodTree tree, Void none) {
      methods++;
      String outside = method;
      method = name(element());
      due.is("rule 8: " + method + " is one method", calls.containsKey(method) ? 1 : 0, 0);
      calls.put(method, new TreeSet<>());
      due.is("rule 11: parameters of " + method, tree.getParameters().size() <= MOST_PARAMETERS ? 1 : 0, 1);
      due.is("rule 11: lines of " + method, end(tree) - begin(tree) < MOST_LINES ? 1 : 0, 1);
      due.is("rule 6: " + method + " throws nothing", tree.getThrows().size(), 0);
      if (tree.getReturnType() != null) {
        isKnown(tree, trees.getTypeMirror(new TreePath(getCurrentPath(), tree.getReturnType())));
      }
      super.visitMethod(tree, none);
      method = outside;
      return null;
    }

    @Override
    public Void visitMethodInvocation(MethodInvocationTree tree, Void none) {
      String called = name(element());
      if (called.startsWith("TollSills")) {
        calls.getOrDefault(method, new TreeSet<>()).add(called);
      } else {
        due.is("line " + begin(tree) + ", rule 4: " + called, LIBRARY.contains(called) ? 1 : 0, 1);
      }
      return super.visitMethodInvocation(tree, none);
    }

    @Override
    public Void visitNewClass(NewClassTree tree, Void none) {
      due.is("line " + begin(tree) + ", rule 2: no body", tree.getClassBody() == null ? 1 : 0, 1);
      due.is("line " + begin(tree) + ", rule 12: made with its object", method.isEmpty() ? 1 : 0, 1);
      due.is("line " + begin(tree) + ", rule 4: own class", name(element()).startsWith("TollSills.") ? 1 : 0, 1);
      return super.visitNewClass(tree, none);
    }

    @Override
    public Void visitNewArray(NewArrayTree tree, Void none) {
      due.is("line " + begin(tree) + ", rule 12: made with its object", method.isEmpty() ? 1 : 0, 1);
      return super.visitNewArray(tree, none);
    }

    @Override
    public Void visitTypeCast(TypeCastTree tree, Void none) {
      due.is("line " + begin(tree) + ", rule 6: a cast of numbers",
          trees.getTypeMirror(getCurrentPath()).getKind().isPrimitive() ? 1 : 0, 1);
      return super.visitTypeCast(tree, none);
    }

    @Override
    public Void visitBinary(BinaryTree tree, Void none) {
      due.is("line " + begin(tree) + ", rules 6, 10: of numbers",
          isNumber(tree.getLeftOperand()) && isNumber(tree.getRightOperand()) ? 1 : 0, 1);
      return super.visitBinary(tree, none);
    }

    private boolean isNumber(ExpressionTree tree) {
      return trees.getTypeMirror(new TreePath(getCurrentPath(), tree)).getKind().isPrimitive();
    }

    @Override
    public Void visitForLoop(ForLoopTree tree, Void none) {
      hasEnd(tree, tree.getCondition());
      return super.visitForLoop(tree, none);
    }

    @Override
    public Void visitWhileLoop(WhileLoopTree tree, Void none) {
      hasEnd(tree, tree.getCondition());
      return super.visitWhileLoop(tree, none);
    }

    @Override
    public Void visitDoWhileLoop(DoWhileLoopTree tree, Void none) {
      hasEnd(tree, tree.getCondition());
      return super.visitDoWhileLoop(tree, none);
    }

    private void hasEnd(Tree loop, ExpressionTree condition) {
      boolean compares = condition != null && condition.toString().matches(".*[<>].*");
      due.is("line " + begin(loop) + ", rule 9: compares with a bound", compares ? 1 : 0, 1);
    }

    @Override
    public Void visitLiteral(LiteralTree tree, Void none) {
      if (tree.getValue() instanceof String text) {
        due.is("line " + begin(tree) + ", rule 4: signs", text.chars().allMatch(c -> c >= 1 && c <= 127) ? 1 : 0, 1);
      }
      due.is("line " + begin(tree) + ", no null", tree.getKind() == Tree.Kind.NULL_LITERAL ? 1 : 0, 0);
      return super.visitLiteral(tree, none);
    }

    @Override
    public Void visitLambdaExpression(LambdaExpressionTree tree, Void none) {
      ruledOut("rule 2: a lambda", tree);
      return super.visitLambdaExpression(tree, none);
    }

    @Override
    public Void visitMemberReference(MemberReferenceTree tree, Void none) {
      ruledOut("rule 2: a method reference", tree);
      return super.visitMemberReference(tree, none);
    }

    @Override
    public Void visitThrow(ThrowTree tree, Void none) {
      ruledOut("rule 6: throw", tree);
      return super.visitThrow(tree, none);
    }

    @Override
    public Void visitTry(TryTree tree, Void none) {
      ruledOut("rule 6: try", tree);
      return super.visitTry(tree, none);
    }

    @Override
    public Void visitSynchronized(SynchronizedTree tree, Void none) {
      ruledOut("rule 6: synchronized", tree);
      return super.visitSynchronized(tree, none);
    }

    @Override
    public Void visitAssert(AssertTree tree, Void none) {
      ruledOut("rule 6: assert", tree);
      return super.visitAssert(tree, none);
    }
  }
}
