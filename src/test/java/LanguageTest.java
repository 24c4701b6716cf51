import com.sun.source.tree.ArrayAccessTree;
import com.sun.source.tree.AssignmentTree;
import com.sun.source.tree.BinaryTree;
import com.sun.source.tree.ClassTree;
import com.sun.source.tree.CompilationUnitTree;
import com.sun.source.tree.CompoundAssignmentTree;
import com.sun.source.tree.ExpressionTree;
import com.sun.source.tree.ForLoopTree;
import com.sun.source.tree.IdentifierTree;
import com.sun.source.tree.LiteralTree;
import com.sun.source.tree.MethodInvocationTree;
import com.sun.source.tree.MethodTree;
import com.sun.source.tree.ModifiersTree;
import com.sun.source.tree.NewArrayTree;
import com.sun.source.tree.Tree;
import com.sun.source.tree.Tree.Kind;
import com.sun.source.tree.UnaryTree;
import com.sun.source.tree.VariableTree;
import com.sun.source.util.JavacTask;
import com.sun.source.util.SourcePositions;
import com.sun.source.util.TreeScanner;
import com.sun.source.util.Trees;
import java.io.IOException;
import java.nio.file.Path;
import java.util.EnumSet;
import java.util.HashMap;
import java.util.HashSet;
import java.util.List;
import java.util.Map;
import java.util.Set;
import java.util.TreeMap;
import java.util.TreeSet;
import javax.lang.model.element.Modifier;
import javax.tools.JavaCompiler;
import javax.tools.StandardJavaFileManager;
import javax.tools.ToolProvider;

/**
 * The class keeps to LANGUAGE.md, as far as its text can tell. The test is narrower than the rules where the class
 * needs less than they leave (no cast, no division, no loop but a counting one, no array but in a field): whoever
 * needs more widens it by what the rule says. What can be seen from outside is for FaceTest, and that no call throws
 * for the tests that call.
 */
public final class LanguageTest {
  private static final Path SOURCE = Path.of("src/main/java/TreeCompare.java");
  private static final int MOST_PARAMETERS = 7;
  private static final int MOST_LINES = 60;
  private static final int MOST_DEPTH = 6;
  private static final int MOST_FIELDS = 40;

  private static final Set<String> NUMBER_TYPES = Set.of("int", "long", "short", "byte", "char", "boolean");

  private static final Set<Modifier> MODIFIERS =
      EnumSet.of(Modifier.PUBLIC, Modifier.PRIVATE, Modifier.STATIC, Modifier.FINAL);

  /** No member of anything is named, no object made and no literal but numbers: so no library is within reach. */
  private static final Set<Kind> KINDS = EnumSet.of(
      Kind.COMPILATION_UNIT, Kind.CLASS, Kind.METHOD, Kind.VARIABLE, Kind.MODIFIERS, Kind.PRIMITIVE_TYPE,
      Kind.ARRAY_TYPE, Kind.NEW_ARRAY, Kind.BLOCK, Kind.IF, Kind.FOR_LOOP, Kind.RETURN, Kind.EXPRESSION_STATEMENT,
      Kind.METHOD_INVOCATION, Kind.IDENTIFIER, Kind.INT_LITERAL, Kind.BOOLEAN_LITERAL, Kind.ARRAY_ACCESS,
      Kind.PARENTHESIZED, Kind.CONDITIONAL_EXPRESSION, Kind.ASSIGNMENT, Kind.PLUS_ASSIGNMENT, Kind.OR_ASSIGNMENT,
      Kind.AND_ASSIGNMENT, Kind.POSTFIX_INCREMENT, Kind.UNARY_MINUS, Kind.LOGICAL_COMPLEMENT, Kind.BITWISE_COMPLEMENT,
      Kind.PLUS, Kind.MINUS, Kind.MULTIPLY, Kind.AND, Kind.OR, Kind.XOR, Kind.LEFT_SHIFT, Kind.RIGHT_SHIFT,
      Kind.EQUAL_TO, Kind.NOT_EQUAL_TO, Kind.LESS_THAN, Kind.LESS_THAN_EQUAL, Kind.GREATER_THAN,
      Kind.GREATER_THAN_EQUAL, Kind.CONDITIONAL_AND, Kind.CONDITIONAL_OR);

  private static int wrong = 0;

  private static CompilationUnitTree unit;
  private static SourcePositions positions;

  private static final Map<String, Integer> constants = new HashMap<>();
  private static final Set<String> arrays = new HashSet<>();
  private static final Map<String, MethodTree> methods = new TreeMap<>();

  private static long line(long position) {
    return unit.getLineMap().getLineNumber(position);
  }

  private static void due(String rule, Tree where, String what, boolean holds) {
    if (!holds) {
      wrong++;
      System.out.println("rule " + rule + ", line " + line(positions.getStartPosition(unit, where)) + ": " + what);
    }
  }

  private static boolean is(VariableTree v, Modifier m) {
    return v.getModifiers().getFlags().contains(m);
  }

  // What the file and the class declare.

  private static void theFile() {
    due("1", unit, "a package line", unit.getPackage() == null);
    due("3", unit, "an import", unit.getImports().isEmpty());
    due("1", unit, "more than one class", unit.getTypeDecls().size() == 1);
  }

  private static void theMembers(ClassTree c) {
    int fields = 0;
    for (Tree member : c.getMembers()) {
      if (member instanceof MethodTree m) {
        due("1", m, "a second method " + m.getName(), methods.put(m.getName().toString(), m) == null);
      } else if (member instanceof VariableTree v && is(v, Modifier.STATIC)) {
        constant(v);
      } else if (member instanceof VariableTree v) {
        fields++;
        if (v.getType().getKind() == Kind.ARRAY_TYPE) arrayField(v);
      } else {
        due("1 or 5", member, "no field, constructor or method", false);
      }
    }
    due("10", c, fields + " fields", fields <= MOST_FIELDS);
  }

  private static void constant(VariableTree v) {
    boolean whole = Set.of("int", "long").contains(v.getType().toString());
    due("5", v, v.getName() + " is no constant of int or long", whole && is(v, Modifier.FINAL));
    Tree value = v.getInitializer();
    boolean number = value != null && (value.getKind() == Kind.INT_LITERAL || value.getKind() == Kind.UNARY_MINUS);
    due("5", v, v.getName() + " is not a number as it stands", number);
    if (value instanceof LiteralTree l && l.getValue() instanceof Integer i) constants.put(v.getName().toString(), i);
  }

  private static boolean isLength(ExpressionTree e) {
    if (e instanceof LiteralTree l) return l.getValue() instanceof Integer length && length >= 1;
    return constants.getOrDefault(e.toString(), 0) >= 1;
  }

  private static void arrayField(VariableTree v) {
    arrays.add(v.getName().toString());
    due("4", v, v.getName() + " is not final", is(v, Modifier.FINAL));
    boolean made = v.getInitializer() instanceof NewArrayTree n && n.getInitializers() == null
        && n.getDimensions().size() == 1 && isLength(n.getDimensions().get(0));
    due("4", v, v.getName() + " is not made with a constant length of 1 or more", made);
  }

  // What stands in the lines.

  private static final class Lines extends TreeScanner<Void, Void> {
    private int classes = 0;
    private boolean inMethod = false;
    private boolean inArguments = false;

    @Override public Void scan(Tree tree, Void p) {
      if (tree != null) due("2 to 9", tree, tree.getKind() + " is not used here", KINDS.contains(tree.getKind()));
      return super.scan(tree, p);
    }

    @Override public Void visitClass(ClassTree c, Void p) {
      classes++;
      due("1", c, "a nested class", classes == 1);
      due("3", c, "another class above it", c.getExtendsClause() == null && c.getImplementsClause().isEmpty());
      return super.visitClass(c, p);
    }

    @Override public Void visitModifiers(ModifiersTree m, Void p) {
      due("1 and 6", m, "not all known: " + m.getFlags(), MODIFIERS.containsAll(m.getFlags()));
      return super.visitModifiers(m, p);
    }

    @Override public Void visitVariable(VariableTree v, Void p) {
      String type = String.valueOf(v.getType());
      boolean array = !inMethod && type.endsWith("[]") && NUMBER_TYPES.contains(type.substring(0, type.length() - 2));
      due("2", v, v.getName() + " is of type " + type, array || NUMBER_TYPES.contains(type));
      String name = v.getName().toString();
      boolean hides = inMethod && (arrays.contains(name) || constants.containsKey(name));
      due("4 or 8", v, name + " hides an array or a constant", !hides);
      return super.visitVariable(v, p);
    }

    @Override public Void visitMethod(MethodTree m, Void p) {
      String answer = m.getReturnType() == null ? "void" : m.getReturnType().toString();
      due("2 or 4", m, m.getName() + " answers " + answer, answer.equals("void") || NUMBER_TYPES.contains(answer));
      due("6", m, m.getName() + " throws", m.getThrows().isEmpty());
      due("10", m, "parameters of " + m.getName(), m.getParameters().size() <= MOST_PARAMETERS);
      long lines = 1 + line(positions.getEndPosition(unit, m)) - line(positions.getStartPosition(unit, m));
      due("10", m, m.getName() + " has " + lines + " lines", lines <= MOST_LINES);
      inMethod = true;
      super.visitMethod(m, p);
      inMethod = false;
      return null;
    }

    @Override public Void visitNewArray(NewArrayTree n, Void p) {
      due("4", n, "an array is made outside the fields", !inMethod);
      return super.visitNewArray(n, p);
    }

    @Override public Void visitArrayAccess(ArrayAccessTree a, Void p) {
      due("4", a, "an index into " + a.getExpression(), arrays.contains(a.getExpression().toString()));
      return scan(a.getIndex(), p);
    }

    @Override public Void visitIdentifier(IdentifierTree i, Void p) {
      // With its index an array is not met here, so that it is neither answered, compared, assigned nor named again.
      due("4", i, "the array " + i + " without an index", !arrays.contains(i.getName().toString()));
      return null;
    }

    @Override public Void visitMethodInvocation(MethodInvocationTree call, Void p) {
      String name = call.getMethodSelect().toString();
      due("3", call, "a call of " + name, methods.containsKey(name));
      due("10", call, "a call of " + name + " inside the arguments of another one", !inArguments);
      boolean outside = inArguments;
      inArguments = true;
      scan(call.getArguments(), p);
      inArguments = outside;
      return null;
    }

    @Override public Void visitForLoop(ForLoopTree loop, Void p) {
      due("8", loop, "a loop that does not count up to a constant", countsUpToAConstant(loop));
      return super.visitForLoop(loop, p);
    }
  }

  // Loops: for (int i = ..; i < CONSTANT; i++), with i left alone inside.

  private static boolean countsUpToAConstant(ForLoopTree loop) {
    if (loop.getInitializer().size() != 1 || loop.getUpdate().size() != 1) return false;
    if (!(loop.getInitializer().get(0) instanceof VariableTree counter)) return false;
    String name = counter.getName().toString();
    boolean bounded = loop.getCondition() instanceof BinaryTree b && b.getKind() == Kind.LESS_THAN
        && b.getLeftOperand().toString().equals(name) && isLength(b.getRightOperand());
    boolean rises = loop.getUpdate().get(0).getExpression().toString().equals(name + "++");
    return bounded && rises && !changed(loop.getStatement()).contains(name);
  }

  private static Set<String> changed(Tree lines) {
    Set<String> names = new HashSet<>();
    new TreeScanner<Void, Void>() {
      @Override public Void scan(Tree tree, Void p) {
        if (tree instanceof AssignmentTree a) names.add(a.getVariable().toString());
        if (tree instanceof CompoundAssignmentTree a) names.add(a.getVariable().toString());
        // A sign before a name counts as a change too: that tells too much rather than too little.
        if (tree instanceof UnaryTree u) names.add(u.getExpression().toString());
        return super.scan(tree, p);
      }
    }.scan(lines, null);
    return names;
  }

  // Calls: whether one comes back to itself, and how deep they go.

  private static Set<String> calledBy(String name) {
    Set<String> called = new TreeSet<>();
    new TreeScanner<Void, Void>() {
      @Override public Void visitMethodInvocation(MethodInvocationTree call, Void p) {
        called.add(call.getMethodSelect().toString());
        return super.visitMethodInvocation(call, p);
      }
    }.scan(methods.get(name), null);
    called.retainAll(methods.keySet());
    return called;
  }

  private static boolean comesBack(String name) {
    Set<String> reached = new TreeSet<>(calledBy(name));
    for (int before = -1; before != reached.size(); ) {
      before = reached.size();
      for (String called : List.copyOf(reached)) reached.addAll(calledBy(called));
    }
    return reached.contains(name);
  }

  private static int depth(String name) {
    int below = 0;
    for (String called : calledBy(name)) below = Math.max(below, depth(called));
    return below + 1;
  }

  private static void theCalls() {
    int before = wrong;
    for (String name : methods.keySet()) due("8", methods.get(name), name + " comes back to itself", !comesBack(name));
    // Where one comes back to itself there is no depth to count.
    if (wrong != before) return;
    for (String name : methods.keySet()) {
      due("10", methods.get(name), "calls of " + name + " go " + depth(name) + " deep", depth(name) <= MOST_DEPTH);
    }
  }

  private static void parse() throws IOException {
    JavaCompiler compiler = ToolProvider.getSystemJavaCompiler();
    try (StandardJavaFileManager files = compiler.getStandardFileManager(null, null, null)) {
      JavacTask task = (JavacTask) compiler.getTask(null, files, null, null, null, files.getJavaFileObjects(SOURCE));
      unit = task.parse().iterator().next();
      positions = Trees.instance(task).getSourcePositions();
    }
  }

  public static void main(String[] args) throws IOException {
    parse();
    theFile();
    theMembers((ClassTree) unit.getTypeDecls().get(0));
    new Lines().scan(unit, null);
    theCalls();
    System.out.println(wrong == 0 ? "the class keeps to the language" : wrong + " places are outside the language");
    if (wrong != 0) System.exit(1);
  }
}
