import com.sun.source.tree.AssertTree;
import com.sun.source.tree.BinaryTree;
import com.sun.source.tree.BlockTree;
import com.sun.source.tree.ClassTree;
import com.sun.source.tree.CompilationUnitTree;
import com.sun.source.tree.CompoundAssignmentTree;
import com.sun.source.tree.DoWhileLoopTree;
import com.sun.source.tree.ExpressionTree;
import com.sun.source.tree.ForLoopTree;
import com.sun.source.tree.LambdaExpressionTree;
import com.sun.source.tree.LiteralTree;
import com.sun.source.tree.MemberReferenceTree;
import com.sun.source.tree.MethodInvocationTree;
import com.sun.source.tree.MethodTree;
import com.sun.source.tree.NewClassTree;
import com.sun.source.tree.ParenthesizedTree;
import com.sun.source.tree.SynchronizedTree;
import com.sun.source.tree.ThrowTree;
import com.sun.source.tree.Tree;
import com.sun.source.tree.TryTree;
import com.sun.source.tree.VariableTree;
import com.sun.source.tree.WhileLoopTree;
import com.sun.source.util.JavacTask;
import com.sun.source.util.SourcePositions;
import com.sun.source.util.TreePath;
import com.sun.source.util.TreePathScanner;
import com.sun.source.util.Trees;
import java.io.IOException;
import java.net.URI;
import java.util.HashMap;
import java.util.HashSet;
import java.util.List;
import java.util.Map;
import java.util.Set;
import java.util.TreeSet;
import javax.lang.model.element.Element;
import javax.lang.model.element.ElementKind;
import javax.lang.model.element.Modifier;
import javax.lang.model.element.TypeElement;
import javax.lang.model.type.ArrayType;
import javax.lang.model.type.TypeKind;
import javax.lang.model.type.TypeMirror;
import javax.tools.DiagnosticCollector;
import javax.tools.JavaFileObject;
import javax.tools.SimpleJavaFileObject;
import javax.tools.ToolProvider;

/**
 * Looks through a program's text for what LANGUAGE.md rules out, as far as the text shows it. It
 * is stricter than the rules where that is simpler: it complains of every recursion, and knows
 * only those parts of the library that a program of this kind may want.
 */
final class Language extends TreePathScanner<Void, Void> {
    private static final int MOST_PARAMETERS = 7;
    private static final int MOST_LINES = 60;
    private static final int MOST_CLASSES = 12;
    private static final int MOST_FIELDS = 20;
    private static final int MOST_DEEP = 8;

    private static final Set<String> TYPES = Set.of("java.lang.String", "java.lang.StringBuilder",
            "java.lang.Integer", "java.util.ArrayList", "java.util.List");
    private static final Set<String> CALLS = Set.of("java.util.Arrays.fill",
            "java.util.Arrays.copyOf", "java.util.Arrays.copyOfRange",
            "java.lang.System.arraycopy", "java.lang.Object.<init>",
            "java.lang.Math.max", "java.lang.Math.min", "java.lang.Math.abs",
            "java.lang.Integer.bitCount", "java.lang.Integer.compare");
    private static final Set<String> EXCEPTIONS = Set.of("IllegalStateException",
            "IllegalArgumentException", "IndexOutOfBoundsException", "ArithmeticException",
            "UnsupportedOperationException", "NoSuchElementException", "RuntimeException");
    private static final Set<String> OBJECT_METHODS = Set.of("equals", "hashCode", "toString");

    private final Set<String> complaints = new TreeSet<>();
    private final Map<Element, Set<Element>> calls = new HashMap<>();
    private final Set<String> publicNames = new HashSet<>();
    private final Trees trees;
    private int classes = 0;

    private Language(JavacTask task) {
        trees = Trees.instance(task);
    }

    /** Each complaint begins with the rule's number; those that do not compile have number 0. */
    static Set<String> complaints(String name, String text) throws IOException {
        DiagnosticCollector<JavaFileObject> errors = new DiagnosticCollector<>();
        JavaFileObject file = new SimpleJavaFileObject(URI.create("string:///" + name + ".java"),
                JavaFileObject.Kind.SOURCE) {
            @Override
            public CharSequence getCharContent(boolean ignoreEncodingErrors) {
                return text;
            }
        };
        JavacTask task = (JavacTask) ToolProvider.getSystemJavaCompiler().getTask(
                null, null, errors, List.of("--release", "17", "-proc:none"), null, List.of(file));
        Iterable<? extends CompilationUnitTree> units = task.parse();
        task.analyze();
        Language language = new Language(task);
        if (!errors.getDiagnostics().isEmpty()) {
            language.complaints.add("0: " + errors.getDiagnostics());
            return language.complaints;
        }
        for (CompilationUnitTree unit : units) {
            language.scan(new TreePath(unit), null);
        }
        language.lookAtWhole();
        return language.complaints;
    }

    private void complain(int rule, String what) {
        complaints.add(rule + ": " + what);
    }

    private Element here() {
        return trees.getElement(getCurrentPath());
    }

    /** The method or constructor that stands round this place; a class for its initialisers. */
    private Element round() {
        for (TreePath path = getCurrentPath().getParentPath(); path != null;
                path = path.getParentPath()) {
            Tree tree = path.getLeaf();
            if (tree instanceof MethodTree || tree instanceof ClassTree) {
                return trees.getElement(path);
            }
        }
        return null;
    }

    private static String ownerOf(Element element) {
        return ((TypeElement) element.getEnclosingElement()).getQualifiedName().toString();
    }

    private static boolean isOwn(String type) {
        return !type.startsWith("java.");
    }

    @Override
    public Void visitClass(ClassTree tree, Void none) {
        Element type = here();
        classes++;
        if (type.getEnclosingElement() instanceof TypeElement) {
            boolean isStatic = type.getModifiers().contains(Modifier.STATIC);
            boolean isOpen = type.getModifiers().contains(Modifier.PUBLIC)
                    || type.getModifiers().contains(Modifier.PROTECTED);
            if (!isStatic || isOpen) {
                complain(1, type + " is not static, or seen from outside");
            }
        } else {
            notePublicNames(type);
        }
        int fields = 0;
        for (Tree member : tree.getMembers()) {
            if (member instanceof BlockTree && ((BlockTree) member).isStatic()) {
                complain(5, type + " has a static initialiser block");
            }
            if (member instanceof VariableTree && !((VariableTree) member).getModifiers()
                    .getFlags().contains(Modifier.STATIC)) {
                fields++;
            }
        }
        if (fields > MOST_FIELDS) {
            complain(11, type + " has " + fields + " fields");
        }
        return super.visitClass(tree, none);
    }

    private void notePublicNames(Element face) {
        for (Element member : face.getEnclosedElements()) {
            if (member.getKind() == ElementKind.METHOD
                    && member.getModifiers().contains(Modifier.PUBLIC)) {
                publicNames.add(member.getSimpleName().toString());
            }
        }
    }

    @Override
    public Void visitMethod(MethodTree tree, Void none) {
        Element method = here();
        String name = tree.getName().toString();
        if (method.getModifiers().contains(Modifier.PRIVATE) && publicNames.contains(name)) {
            complain(1, name + " is private and bears the name of a public one");
        }
        if (OBJECT_METHODS.contains(name)) {
            complain(6, name + " of an own object");
        }
        if (tree.getParameters().size() > MOST_PARAMETERS) {
            complain(11, name + " takes " + tree.getParameters().size() + " parameters");
        }
        if (lines(tree) > MOST_LINES) {
            complain(11, name + " has " + lines(tree) + " lines");
        }
        return super.visitMethod(tree, none);
    }

    private long lines(Tree tree) {
        CompilationUnitTree unit = getCurrentPath().getCompilationUnit();
        SourcePositions positions = trees.getSourcePositions();
        long first = positions.getStartPosition(unit, tree);
        long last = positions.getEndPosition(unit, tree);
        // What the compiler made itself has no end.
        return last < 0 ? 0 : unit.getLineMap().getLineNumber(last)
                - unit.getLineMap().getLineNumber(first) + 1;
    }

    @Override
    public Void visitVariable(VariableTree tree, Void none) {
        Set<Modifier> modifiers = here().getModifiers();
        if (modifiers.contains(Modifier.STATIC) && !modifiers.contains(Modifier.FINAL)) {
            complain(5, tree.getName() + " is static and not final");
        }
        if (here().getKind() != ElementKind.EXCEPTION_PARAMETER
                && !isAllowed(here().asType(), 0)) {
            complain(3, tree.getName() + " is of type " + here().asType());
        }
        return super.visitVariable(tree, none);
    }

    private static boolean isAllowed(TypeMirror type, int dimensions) {
        if (type.getKind() == TypeKind.ARRAY) {
            return isAllowed(((ArrayType) type).getComponentType(), dimensions + 1);
        }
        if (type.getKind().isPrimitive()) {
            return dimensions <= 2;
        }
        String name = type.toString().replaceAll("<.*", "");
        return isOwn(name) ? dimensions <= 1 : dimensions == 0 && TYPES.contains(name);
    }

    @Override
    public Void visitMethodInvocation(MethodInvocationTree tree, Void none) {
        lookAtCall(here());
        return super.visitMethodInvocation(tree, none);
    }

    @Override
    public Void visitNewClass(NewClassTree tree, Void none) {
        if (!(getCurrentPath().getParentPath().getLeaf() instanceof ThrowTree)) {
            lookAtCall(here());
        }
        return super.visitNewClass(tree, none);
    }

    private void lookAtCall(Element called) {
        String owner = ownerOf(called);
        if (isOwn(owner)) {
            calls.computeIfAbsent(round(), key -> new HashSet<>()).add(called);
        } else if (!CALLS.contains(owner + "." + called.getSimpleName())) {
            complain(4, "a call of " + owner + "." + called.getSimpleName());
        }
    }

    @Override
    public Void visitThrow(ThrowTree tree, Void none) {
        Element method = round();
        if (method.getKind() == ElementKind.CONSTRUCTOR) {
            complain(6, "a throw in the constructor of " + method.getEnclosingElement());
        }
        if (!isPlain(tree.getExpression())) {
            complain(6, "a throw that is not plain: " + tree);
        }
        return super.visitThrow(tree, none);
    }

    private static boolean isPlain(ExpressionTree thrown) {
        if (!(thrown instanceof NewClassTree)) {
            return false;
        }
        NewClassTree made = (NewClassTree) thrown;
        List<? extends ExpressionTree> texts = made.getArguments();
        return EXCEPTIONS.contains(made.getIdentifier().toString()) && texts.size() <= 1
                && (texts.isEmpty() || texts.get(0).getKind() == Tree.Kind.STRING_LITERAL);
    }

    @Override
    public Void visitTry(TryTree tree, Void none) {
        if (tree.getFinallyBlock() != null || !tree.getResources().isEmpty()) {
            complain(6, "a finally, or a try with resources");
        }
        return super.visitTry(tree, none);
    }

    @Override
    public Void visitSynchronized(SynchronizedTree tree, Void none) {
        complain(6, "a synchronized");
        return super.visitSynchronized(tree, none);
    }

    @Override
    public Void visitAssert(AssertTree tree, Void none) {
        complain(6, "an assert");
        return super.visitAssert(tree, none);
    }

    @Override
    public Void visitLambdaExpression(LambdaExpressionTree tree, Void none) {
        complain(2, "a lambda");
        return super.visitLambdaExpression(tree, none);
    }

    @Override
    public Void visitMemberReference(MemberReferenceTree tree, Void none) {
        complain(2, "a method reference");
        return super.visitMemberReference(tree, none);
    }

    @Override
    public Void visitForLoop(ForLoopTree tree, Void none) {
        lookAtEnd(tree.getCondition());
        return super.visitForLoop(tree, none);
    }

    @Override
    public Void visitWhileLoop(WhileLoopTree tree, Void none) {
        lookAtEnd(tree.getCondition());
        return super.visitWhileLoop(tree, none);
    }

    @Override
    public Void visitDoWhileLoop(DoWhileLoopTree tree, Void none) {
        lookAtEnd(tree.getCondition());
        return super.visitDoWhileLoop(tree, none);
    }

    private void lookAtEnd(ExpressionTree condition) {
        ExpressionTree bare = condition instanceof ParenthesizedTree
                ? ((ParenthesizedTree) condition).getExpression() : condition;
        if (bare == null || bare instanceof LiteralTree) {
            complain(9, "a loop without an end in " + round());
        }
    }

    @Override
    public Void visitBinary(BinaryTree tree, Void none) {
        lookAtSum(tree, tree.getKind() == Tree.Kind.PLUS);
        return super.visitBinary(tree, none);
    }

    @Override
    public Void visitCompoundAssignment(CompoundAssignmentTree tree, Void none) {
        lookAtSum(tree.getVariable(), tree.getKind() == Tree.Kind.PLUS_ASSIGNMENT);
        return super.visitCompoundAssignment(tree, none);
    }

    private void lookAtSum(Tree tree, boolean isSum) {
        TypeMirror type = trees.getTypeMirror(new TreePath(getCurrentPath(), tree));
        if (isSum && type != null && type.toString().equals("java.lang.String")) {
            complain(10, "texts joined by + in " + round());
        }
    }

    private void lookAtWhole() {
        if (classes > MOST_CLASSES) {
            complain(11, classes + " classes");
        }
        Map<Element, Integer> depths = new HashMap<>();
        // A chain of calls without recursion is ready when each method has had its round.
        for (int round = 0; round <= calls.size(); round++) {
            for (Element method : calls.keySet()) {
                depths.put(method, depthOf(method, depths));
            }
        }
        for (Element method : calls.keySet()) {
            if (depths.get(method) != depthOf(method, depths)) {
                complain(8, method + " calls itself, or one that does");
            } else if (depths.get(method) > MOST_DEEP) {
                complain(11, method + " makes calls " + depths.get(method) + " deep");
            }
        }
    }

    private int depthOf(Element method, Map<Element, Integer> depths) {
        int most = 0;
        for (Element called : calls.get(method)) {
            most = Math.max(most, depths.getOrDefault(called, 1));
        }
        return most + 1;
    }
}
