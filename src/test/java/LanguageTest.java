import com.sun.source.tree.ArrayAccessTree;
import com.sun.source.tree.AssignmentTree;
import com.sun.source.tree.BinaryTree;
import com.sun.source.tree.ClassTree;
import com.sun.source.tree.CompilationUnitTree;
import com.sun.source.tree.CompoundAssignmentTree;
import com.sun.source.tree.ExpressionTree;
import com.sun.source.tree.ForLoopTree;
import com.sun.source.tree.ImportTree;
import com.sun.source.tree.MethodInvocationTree;
import com.sun.source.tree.MethodTree;
import com.sun.source.tree.NewArrayTree;
import com.sun.source.tree.NewClassTree;
import com.sun.source.tree.ThrowTree;
import com.sun.source.tree.Tree;
import com.sun.source.tree.UnaryTree;
import com.sun.source.tree.VariableTree;
import com.sun.source.tree.WhileLoopTree;
import com.sun.source.util.JavacTask;
import com.sun.source.util.SourcePositions;
import com.sun.source.util.TreePath;
import com.sun.source.util.TreePathScanner;
import com.sun.source.util.Trees;
import java.io.IOException;
import java.nio.file.Files;
import java.nio.file.Path;
import java.util.ArrayList;
import java.util.EnumSet;
import java.util.HashSet;
import java.util.LinkedHashMap;
import java.util.LinkedHashSet;
import java.util.List;
import java.util.Map;
import java.util.Set;
import javax.lang.model.element.Element;
import javax.lang.model.element.ExecutableElement;
import javax.lang.model.element.Modifier;
import javax.lang.model.element.VariableElement;
import javax.lang.model.type.TypeKind;
import javax.lang.model.type.TypeMirror;
import javax.tools.JavaCompiler;
import javax.tools.StandardJavaFileManager;
import javax.tools.ToolProvider;

/**
 * The rules of ../shared/LANGUAGE.md that the program's text shows, read from the compiler's own
 * tree of it. They are held more narrowly than they stand: what the program has no use for is not
 * let in, though a rule would. Run it in the project's folder.
 */
public final class LanguageTest {
    private static final Path PROGRAM = Path.of("src/main/java/TraceJudge.java");
    private static final Set<String> FACE = Set.of("say", "judge", "fault", "size", "hypotheses", "symbol",
        "typeSymbol", "cut", "keep");
    /** Rule 4. */
    private static final Set<String> LIBRARY = Set.of("java.lang.Math.max", "java.lang.Math.min",
        "java.util.Arrays.copyOf", "java.util.Arrays.fill");
    /** Rule 6, but only those that the document names. */
    private static final Set<String> THROWN = Set.of("IndexOutOfBoundsException", "IllegalStateException",
        "IllegalArgumentException");
    /** Rules 2, 6 and 10; also what no rule speaks of, as a switch of the newer form. */
    private static final Set<Tree.Kind> NOT_USED = EnumSet.of(Tree.Kind.LAMBDA_EXPRESSION,
        Tree.Kind.MEMBER_REFERENCE, Tree.Kind.TRY, Tree.Kind.CATCH, Tree.Kind.SYNCHRONIZED, Tree.Kind.ASSERT,
        Tree.Kind.SWITCH_EXPRESSION, Tree.Kind.YIELD, Tree.Kind.INSTANCE_OF, Tree.Kind.TYPE_CAST, Tree.Kind.INTERFACE,
        Tree.Kind.ENUM, Tree.Kind.RECORD, Tree.Kind.ANNOTATION_TYPE, Tree.Kind.ANNOTATION, Tree.Kind.DO_WHILE_LOOP,
        Tree.Kind.ENHANCED_FOR_LOOP, Tree.Kind.FLOAT_LITERAL, Tree.Kind.DOUBLE_LITERAL, Tree.Kind.TYPE_PARAMETER);
    private static final int MOST_CALLS_DEEP = 8;

    public static void main(String[] args) throws IOException {
        String text = Files.readString(PROGRAM);
        Checks.that("characters 0 to 127 alone", text.chars().allMatch(c -> c < 128));
        JavaCompiler compiler = ToolProvider.getSystemJavaCompiler();
        try (StandardJavaFileManager files = compiler.getStandardFileManager(null, null, null)) {
            JavacTask task = (JavacTask) compiler.getTask(null, files, null, List.of("--release", "17", "-proc:none"),
                null, files.getJavaFileObjects(PROGRAM));
            CompilationUnitTree unit = task.parse().iterator().next();
            task.analyze();
            Reader reader = new Reader(Trees.instance(task), unit);
            reader.scan(unit, null);
            reader.end();
        }
        Checks.end();
    }

    /** Goes through the program once, and gathers who calls whom. */
    private static final class Reader extends TreePathScanner<Void, Void> {
        private final Trees trees;
        private final SourcePositions places;
        private final CompilationUnitTree unit;
        private final Map<Element, Set<Element>> calls = new LinkedHashMap<>();
        private final Map<Element, Set<Element>> libraryCalls = new LinkedHashMap<>();
        private final Set<Element> arraysOfConstants = new HashSet<>();
        private Element method;
        private int classes = 0;

        Reader(Trees trees, CompilationUnitTree unit) {
            this.trees = trees;
            this.places = trees.getSourcePositions();
            this.unit = unit;
        }

        @Override public Void scan(Tree tree, Void none) {
            if (tree != null) {
                Checks.that("no " + tree.getKind() + ": " + tree, !NOT_USED.contains(tree.getKind()));
            }
            return super.scan(tree, none);
        }

        @Override public Void visitCompilationUnit(CompilationUnitTree tree, Void none) {
            Checks.that("no package", tree.getPackageName() == null);
            Checks.that("one class outside of all others", tree.getTypeDecls().size() == 1);
            return super.visitCompilationUnit(tree, none);
        }

        @Override public Void visitImport(ImportTree tree, Void none) {
            String name = tree.getQualifiedIdentifier().toString();
            Checks.that("import " + name, name.equals("java.util.Arrays") && !tree.isStatic());
            return null;
        }

        @Override public Void visitClass(ClassTree tree, Void none) {
            classes++;
            String name = tree.getSimpleName().toString();
            boolean isOuter = getCurrentPath().getParentPath().getLeaf() == unit;
            Set<Modifier> wanted = isOuter ? EnumSet.of(Modifier.PUBLIC, Modifier.FINAL)
                : EnumSet.of(Modifier.PRIVATE, Modifier.STATIC, Modifier.FINAL);
            Checks.that(name + " is " + wanted, tree.getModifiers().getFlags().equals(wanted));
            Checks.that(name + " extends nothing",
                tree.getExtendsClause() == null && tree.getImplementsClause().isEmpty());
            int fields = 0;
            for (Tree member : tree.getMembers()) {
                Checks.that(name + " has no block of statements", member.getKind() != Tree.Kind.BLOCK);
                boolean isField = member instanceof VariableTree;
                fields += isField && !isStatic((VariableTree) member) ? 1 : 0;
                Checks.that(name + " has private fields alone",
                    !isField || ((VariableTree) member).getModifiers().getFlags().contains(Modifier.PRIVATE));
            }
            Checks.that(name + " has at most 20 fields, but " + fields, fields <= 20);
            return super.visitClass(tree, none);
        }

        private static boolean isStatic(VariableTree tree) {
            return tree.getModifiers().getFlags().contains(Modifier.STATIC);
        }

        @Override public Void visitVariable(VariableTree tree, Void none) {
            VariableElement element = (VariableElement) element();
            Checks.that(tree.getName() + " is of a type of rule 3", isOfRule3(element.asType()));
            if (isStatic(tree)) {
                boolean isArray = element.asType().getKind() == TypeKind.ARRAY;
                boolean isWritten = isArray && tree.getInitializer() instanceof NewArrayTree
                    && ((NewArrayTree) tree.getInitializer()).getInitializers() != null;
                Checks.that(tree.getName() + " is a constant, or a row that is written out",
                    tree.getModifiers().getFlags().contains(Modifier.FINAL)
                        && (isArray ? isWritten : element.getConstantValue() != null));
                if (isArray) {
                    arraysOfConstants.add(element);
                }
            } else if (tree.getInitializer() != null) {
                // A field that may be one of the constant rows is not to be changed either.
                Element from = trees.getElement(new TreePath(getCurrentPath(), tree.getInitializer()));
                if (arraysOfConstants.contains(from)) {
                    arraysOfConstants.add(element);
                }
            }
            return super.visitVariable(tree, none);
        }

        private static boolean isOfRule3(TypeMirror type) {
            TypeKind kind = type.getKind();
            boolean isOwn = kind == TypeKind.DECLARED && type.toString().startsWith("TraceJudge");
            boolean isRow = kind == TypeKind.ARRAY && type.toString().equals("int[]");
            return kind == TypeKind.INT || kind == TypeKind.BOOLEAN || kind == TypeKind.VOID || isOwn || isRow;
        }

        @Override public Void visitMethod(MethodTree tree, Void none) {
            // What the compiler adds by itself has no place in the text.
            if (places.getEndPosition(unit, tree) < 0) {
                return null;
            }
            method = element();
            calls.put(method, new LinkedHashSet<>());
            libraryCalls.put(method, new LinkedHashSet<>());
            String name = named(method);
            boolean isOfOuter = method.getEnclosingElement().getSimpleName().contentEquals("TraceJudge");
            boolean isPublic = method.getModifiers().contains(Modifier.PUBLIC);
            boolean isConstructor = tree.getReturnType() == null;
            boolean isFace = isOfOuter && (isConstructor || FACE.contains(tree.getName().toString()));
            Checks.that(name + " is public if it is of the face, and only then", isPublic == isFace);
            Checks.that(name + " is private, or of a class inside",
                isPublic || !isOfOuter || method.getModifiers().contains(Modifier.PRIVATE));
            Checks.that(name + " has another name than those of the face",
                isFace || !FACE.contains(tree.getName().toString()));
            Checks.that(name + " takes at most seven", tree.getParameters().size() <= 7);
            Checks.that(name + " answers with a type of rule 3",
                isConstructor || isOfRule3(((ExecutableElement) method).getReturnType()));
            long lines = lineOf(places.getEndPosition(unit, tree)) - lineOf(places.getStartPosition(unit, tree)) + 1;
            Checks.that(name + " has at most 60 lines, but " + lines, lines <= 60);
            super.visitMethod(tree, none);
            method = null;
            return null;
        }

        private long lineOf(long position) {
            return unit.getLineMap().getLineNumber(position);
        }

        @Override public Void visitMethodInvocation(MethodInvocationTree tree, Void none) {
            called(element());
            return super.visitMethodInvocation(tree, none);
        }

        @Override public Void visitNewClass(NewClassTree tree, Void none) {
            Checks.that("no body of its own: " + tree, tree.getClassBody() == null);
            called(element());
            return super.visitNewClass(tree, none);
        }

        private void called(Element element) {
            // A field's initialiser is run by the constructor; none of them calls anything.
            Checks.that(named(element) + " is called in a method", method != null || isSuper(element));
            if (method == null || isSuper(element)) {
                return;
            }
            if (named(element).startsWith("TraceJudge")) {
                calls.get(method).add(element);
            } else {
                libraryCalls.get(method).add(element);
            }
        }

        private static boolean isSuper(Element element) {
            return named(element).equals("java.lang.Object.<init>");
        }

        @Override public Void visitThrow(ThrowTree tree, Void none) {
            Checks.that("throw new, as rule 6 says: " + tree, tree.getExpression() instanceof NewClassTree);
            if (tree.getExpression() instanceof NewClassTree) {
                NewClassTree made = (NewClassTree) tree.getExpression();
                boolean isText = made.getArguments().stream().allMatch(t -> t.getKind() == Tree.Kind.STRING_LITERAL);
                Checks.that("an exception of the document: " + tree,
                    THROWN.contains(made.getIdentifier().toString()) && made.getArguments().size() <= 1 && isText);
            }
            Checks.that("only the face throws: " + tree, method != null && method.getModifiers().contains(Modifier.PUBLIC)
                && FACE.contains(method.getSimpleName().toString()));
            return super.visitThrow(tree, none);
        }

        @Override public Void visitBinary(BinaryTree tree, Void none) {
            boolean divides = tree.getKind() == Tree.Kind.DIVIDE || tree.getKind() == Tree.Kind.REMAINDER;
            Checks.that("divided by a written number: " + tree, !divides || isNumberNotZero(tree.getRightOperand()));
            return super.visitBinary(tree, none);
        }

        private static boolean isNumberNotZero(ExpressionTree tree) {
            return tree.getKind() == Tree.Kind.INT_LITERAL && !tree.toString().equals("0");
        }

        @Override public Void visitCompoundAssignment(CompoundAssignmentTree tree, Void none) {
            Checks.that("no division: " + tree, tree.getKind() != Tree.Kind.DIVIDE_ASSIGNMENT
                && tree.getKind() != Tree.Kind.REMAINDER_ASSIGNMENT);
            changed(tree.getVariable());
            return super.visitCompoundAssignment(tree, none);
        }

        @Override public Void visitUnary(UnaryTree tree, Void none) {
            changed(tree.getExpression());
            return super.visitUnary(tree, none);
        }

        @Override public Void visitAssignment(AssignmentTree tree, Void none) {
            changed(tree.getVariable());
            Element from = trees.getElement(new TreePath(getCurrentPath(), tree.getExpression()));
            Element to = trees.getElement(new TreePath(getCurrentPath(), tree.getVariable()));
            if (arraysOfConstants.contains(from)) {
                arraysOfConstants.add(to);
            }
            return super.visitAssignment(tree, none);
        }

        private void changed(ExpressionTree tree) {
            if (tree instanceof ArrayAccessTree) {
                ExpressionTree row = ((ArrayAccessTree) tree).getExpression();
                Element of = trees.getElement(new TreePath(getCurrentPath(), row));
                Checks.that("a constant row stays as it is: " + tree, !arraysOfConstants.contains(of));
            }
        }

        @Override public Void visitForLoop(ForLoopTree tree, Void none) {
            boolean counts = tree.getCondition() != null && tree.getInitializer().size() == 1
                && tree.getUpdate().size() == 1 && tree.getUpdate().get(0).toString().matches("\\w+(\\+\\+|--);?");
            Checks.that("a loop with a counter: " + tree, counts);
            Checks.that("its bound is a comparison: " + tree.getCondition(),
                tree.getCondition().toString().matches("(?s).*[<>].*"));
            return super.visitForLoop(tree, none);
        }

        @Override public Void visitWhileLoop(WhileLoopTree tree, Void none) {
            Checks.that("a loop with a counter against a bound: " + tree,
                tree.getCondition().toString().contains("at < ") && tree.getStatement().toString().contains("at++"));
            return super.visitWhileLoop(tree, none);
        }

        private Element element() {
            return trees.getElement(getCurrentPath());
        }

        private static String named(Element element) {
            Element of = element.getEnclosingElement();
            return of + "." + element.getSimpleName();
        }

        void end() {
            Checks.that("at most 12 classes, but " + classes, classes <= 12);
            Checks.that("methods were found: " + calls.size(), calls.size() > 90);
            for (Map.Entry<Element, Set<Element>> entry : libraryCalls.entrySet()) {
                for (Element element : entry.getValue()) {
                    String name = named(element);
                    boolean isException = element.getSimpleName().contentEquals("<init>")
                        && THROWN.contains(element.getEnclosingElement().getSimpleName().toString());
                    Checks.that(named(entry.getKey()) + " uses " + name, isException || LIBRARY.contains(name));
                }
            }
            for (Element each : calls.keySet()) {
                if (reaches(each, each, new HashSet<>())) {
                    Checks.that(named(each) + ", which may call itself, is private",
                        each.getModifiers().contains(Modifier.PRIVATE));
                }
                List<Element> longest = longestFrom(each, new ArrayList<>());
                Checks.that("at most " + MOST_CALLS_DEEP + " deep, but " + longest, longest.size() <= MOST_CALLS_DEEP);
            }
        }

        private boolean reaches(Element from, Element to, Set<Element> seen) {
            for (Element next : calls.getOrDefault(from, Set.of())) {
                if (next.equals(to) || seen.add(next) && reaches(next, to, seen)) {
                    return true;
                }
            }
            return false;
        }

        /** The longest way of calls in which no method comes twice; the library's stand at its end. */
        private List<Element> longestFrom(Element from, List<Element> before) {
            List<Element> open = new ArrayList<>(before);
            open.add(from);
            List<Element> longest = open;
            for (Element next : calls.getOrDefault(from, Set.of())) {
                if (!open.contains(next)) {
                    List<Element> way = longestFrom(next, open);
                    longest = way.size() > longest.size() ? way : longest;
                }
            }
            for (Element next : libraryCalls.getOrDefault(from, Set.of())) {
                if (longest.size() == open.size()) {
                    longest = new ArrayList<>(open);
                    longest.add(next);
                }
            }
            return longest;
        }
    }
}
