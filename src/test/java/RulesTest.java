import com.sun.source.tree.*;
import com.sun.source.util.*;
import java.io.File;
import java.util.*;
import javax.lang.model.element.*;
import javax.lang.model.type.ArrayType;
import javax.lang.model.type.TypeKind;
import javax.lang.model.type.TypeMirror;
import javax.tools.*;

// What can be seen from the source alone of the rules in ../shared/LANGUAGE.md.
public final class RulesTest extends TreePathScanner<Void, Void> {
  private static final String FILE = "src/main/java/AllPrograms.java";
  private static final int MOST_CLASSES = 12, MOST_FIELDS = 20, MOST_LINES = 60, MOST_PARAMETERS = 7, MOST_DEEP = 8;
  private static final Set<String> FACE = new TreeSet<>(Arrays.asList(
      "AllPrograms()", "language(int)", "of(int,int)", "part(int,int,int)", "clear()", "add(int)", "order(int)", "size(int)",
      "read(int,int,int)", "run(int,int,int)", "ran(int)", "next(int)", "feed(int,int)", "task(int)", "passes(int,int,int)",
      "search(int,int,int)", "searched(int)", "say(int)", "unsay()", "votes(int,int,int,int)", "shortest(int,int,int)",
      "census(int,int,int,int)", "helped(int)", "learn(int,int,int,int)", "cheaper(int,int,int,int)", "price(int,int)",
      "translated(int,int)", "act(int,int,int)", "trace(int)", "keep(int,int)", "row(int,int,int)", "put(int,int,long)",
      "element(int,int)", "shift(int,int,int,int,int)", "taken(int,int)", "count(int)", "BAD", "NOT", "FULL", "STATE", "VOID"));
  private static final Set<String> LIBRARY = Set.of("java.lang.Math.max", "java.lang.Math.min", "java.util.Arrays.fill",
      "java.lang.System.arraycopy", "java.lang.Object.<init>");
  private static final Set<Tree.Kind> FORBIDDEN = EnumSet.of(Tree.Kind.THROW, Tree.Kind.TRY, Tree.Kind.CATCH,
      Tree.Kind.SYNCHRONIZED, Tree.Kind.ASSERT, Tree.Kind.LAMBDA_EXPRESSION, Tree.Kind.MEMBER_REFERENCE,
      Tree.Kind.ENHANCED_FOR_LOOP);

  private final Trees trees;
  private final CompilationUnitTree unit;
  private final Set<String> face = new TreeSet<>();
  private final Set<String> publicNames = new HashSet<>();
  private final Map<Element, Set<Element>> calls = new LinkedHashMap<>();
  private int classes = 0;

  private RulesTest(Trees trees, CompilationUnitTree unit) {
    this.trees = trees;
    this.unit = unit;
    for (String member : FACE) publicNames.add(member.replaceAll("\\(.*", ""));
  }

  private void due(Tree at, String what, boolean good) {
    long line = at == null ? 0 : unit.getLineMap().getLineNumber(trees.getSourcePositions().getStartPosition(unit, at));
    Due.due("line " + line + ": " + what, good ? 1 : 0, 1);
  }

  private Element element() {
    return trees.getElement(getCurrentPath());
  }

  private static boolean isOurs(Element e) {
    while (e != null && !(e instanceof PackageElement)) {
      if (e.getSimpleName().contentEquals("AllPrograms")) return true;
      e = e.getEnclosingElement();
    }
    return false;
  }

  @Override public Void scan(Tree tree, Void none) {
    if (tree != null && FORBIDDEN.contains(tree.getKind())) due(tree, "forbidden: " + tree.getKind(), false);
    return super.scan(tree, none);
  }

  @Override public Void visitClass(ClassTree tree, Void none) {
    classes++;
    TypeElement type = (TypeElement) element();
    boolean outer = !(type.getEnclosingElement() instanceof TypeElement);
    Set<Modifier> modifiers = type.getModifiers();
    due(tree, "class " + type + " is named, static and private", outer || (type.getNestingKind() == NestingKind.MEMBER
        && modifiers.contains(Modifier.STATIC) && !modifiers.contains(Modifier.PUBLIC) && !modifiers.contains(Modifier.PROTECTED)));
    int fields = 0;
    for (Element member : type.getEnclosedElements()) {
      if (member.getKind() == ElementKind.FIELD) checkField((VariableElement) member, outer, tree);
      if (member.getKind() == ElementKind.FIELD && !member.getModifiers().contains(Modifier.STATIC)) fields++;
      if (outer && !member.getKind().isClass() && !member.getModifiers().contains(Modifier.PRIVATE)) checkFace(member, tree);
      if (member.getKind() == ElementKind.STATIC_INIT) due(tree, "no static initialiser", false);
      if (member instanceof ExecutableElement && (!outer || member.getModifiers().contains(Modifier.PRIVATE))) {
        String name = member.getSimpleName().toString();
        due(tree, "no method of ours bears the public name " + name, !publicNames.contains(name));
        due(tree, name + " of our own", !Set.of("equals", "hashCode", "toString").contains(name));
      }
    }
    due(tree, type + " has " + fields + " fields", fields <= MOST_FIELDS);
    return super.visitClass(tree, none);
  }

  private void checkField(VariableElement field, boolean outer, Tree at) {
    if (field.getModifiers().contains(Modifier.STATIC)) {
      due(at, field + " is a constant", field.getModifiers().contains(Modifier.FINAL) && field.getConstantValue() != null);
    } else {
      due(at, field + " is private", field.getModifiers().contains(Modifier.PRIVATE));
    }
  }

  private void checkFace(Element member, Tree at) {
    String name = member.toString().replaceAll("\\s", "");
    due(at, name + " is public", member.getModifiers().contains(Modifier.PUBLIC));
    face.add(name);
  }

  @Override public Void visitMethod(MethodTree tree, Void none) {
    ExecutableElement method = (ExecutableElement) element();
    calls.computeIfAbsent(method, k -> new LinkedHashSet<>());
    due(tree, method + " has " + tree.getParameters().size() + " parameters", tree.getParameters().size() <= MOST_PARAMETERS);
    if (tree.getBody() != null) {
      long from = unit.getLineMap().getLineNumber(trees.getSourcePositions().getStartPosition(unit, tree));
      long to = unit.getLineMap().getLineNumber(trees.getSourcePositions().getEndPosition(unit, tree));
      due(tree, method + " has " + (to - from + 1) + " lines", to - from < MOST_LINES);
    }
    due(tree, method + " throws nothing", tree.getThrows().isEmpty());
    return super.visitMethod(tree, none);
  }

  private Element methodAround() {
    for (TreePath path = getCurrentPath(); path != null; path = path.getParentPath()) {
      if (path.getLeaf() instanceof MethodTree) return trees.getElement(path);
    }
    return null;
  }

  private void called(Tree at) {
    Element callee = element();
    Element caller = methodAround();
    if (isOurs(callee)) {
      if (caller != null) calls.computeIfAbsent(caller, k -> new LinkedHashSet<>()).add(callee);
    } else {
      due(at, callee.getEnclosingElement() + "." + callee.getSimpleName() + " of the library",
          LIBRARY.contains(callee.getEnclosingElement() + "." + callee.getSimpleName()));
    }
  }

  @Override public Void visitMethodInvocation(MethodInvocationTree tree, Void none) {
    called(tree);
    return super.visitMethodInvocation(tree, none);
  }

  @Override public Void visitNewClass(NewClassTree tree, Void none) {
    due(tree, "no class without a name", tree.getClassBody() == null);
    due(tree, "objects are made with the object alone", isMadeWithTheObject());
    called(tree);
    return super.visitNewClass(tree, none);
  }

  @Override public Void visitNewArray(NewArrayTree tree, Void none) {
    due(tree, "rows are made with the object alone", isMadeWithTheObject());
    return super.visitNewArray(tree, none);
  }

  private boolean isMadeWithTheObject() {
    Element around = methodAround();
    return around == null || around.getKind() == ElementKind.CONSTRUCTOR;
  }

  @Override public Void visitVariable(VariableTree tree, Void none) {
    TypeMirror type = element().asType();
    if (type instanceof ArrayType && ((ArrayType) type).getComponentType() instanceof ArrayType) {
      TypeMirror inner = ((ArrayType) ((ArrayType) type).getComponentType()).getComponentType();
      due(tree, "two dimensions of numbers alone", inner.getKind().isPrimitive() && inner.getKind() != TypeKind.BOOLEAN);
    }
    due(tree, type + ": no double, no float", type.getKind() != TypeKind.DOUBLE && type.getKind() != TypeKind.FLOAT);
    return super.visitVariable(tree, none);
  }

  @Override public Void visitWhileLoop(WhileLoopTree tree, Void none) {
    due(tree, "a loop has an end", !tree.getCondition().toString().equals("(true)"));
    return super.visitWhileLoop(tree, none);
  }

  @Override public Void visitForLoop(ForLoopTree tree, Void none) {
    due(tree, "a loop has an end", tree.getCondition() != null);
    return super.visitForLoop(tree, none);
  }

  @Override public Void visitBinary(BinaryTree tree, Void none) {
    TypeMirror type = trees.getTypeMirror(getCurrentPath());
    due(tree, "no joining of texts by +", type != null && type.getKind().isPrimitive());
    return super.visitBinary(tree, none);
  }

  /** How many methods stand open at most, those that call one another in a ring counted once each. */
  private int deep(Element method, List<Element> open) {
    int most = 0;
    open.add(method);
    for (Element next : calls.getOrDefault(method, Set.of())) {
      if (!open.contains(next)) most = Math.max(most, deep(next, open));
    }
    open.remove(open.size() - 1);
    return most + 1;
  }

  private void checkDepth() {
    for (Element method : calls.keySet()) {
      if (!method.getModifiers().contains(Modifier.PUBLIC)) continue;
      int deep = deep(method, new ArrayList<>());
      due(null, method + ": calls go " + deep + " deep", deep <= MOST_DEEP);
    }
  }

  private void checkSigns() throws java.io.IOException {
    String text = java.nio.file.Files.readString(new File(FILE).toPath());
    for (int i = 0; i < text.length(); i++) {
      if (text.charAt(i) > 126 || (text.charAt(i) < 32 && text.charAt(i) != '\n')) due(null, "a sign that is none of 32 .. 126", false);
    }
  }

  public static void main(String[] args) throws Exception {
    JavaCompiler compiler = ToolProvider.getSystemJavaCompiler();
    StandardJavaFileManager files = compiler.getStandardFileManager(null, null, null);
    JavacTask task = (JavacTask) compiler.getTask(null, files, null, List.of("-proc:none"), null, files.getJavaFileObjects(new File(FILE)));
    CompilationUnitTree unit = task.parse().iterator().next();
    task.analyze();
    RulesTest test = new RulesTest(Trees.instance(task), unit);
    test.due(unit, "no package line", unit.getPackageName() == null);
    for (ImportTree line : unit.getImports()) {
      test.due(line, line + " is one that is listed", line.toString().trim().equals("import java.util.Arrays;"));
    }
    test.scan(new TreePath(unit), null);
    test.due(null, test.classes + " classes", test.classes <= MOST_CLASSES);
    test.due(null, "the face is the document's: " + test.face, test.face.equals(FACE));
    test.checkDepth();
    test.checkSigns();
    Due.end();
  }
}
