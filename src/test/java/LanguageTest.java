import com.sun.source.tree.AssertTree;
import com.sun.source.tree.BinaryTree;
import com.sun.source.tree.ClassTree;
import com.sun.source.tree.CompilationUnitTree;
import com.sun.source.tree.DoWhileLoopTree;
import com.sun.source.tree.ForLoopTree;
import com.sun.source.tree.ImportTree;
import com.sun.source.tree.LambdaExpressionTree;
import com.sun.source.tree.MemberReferenceTree;
import com.sun.source.tree.MethodInvocationTree;
import com.sun.source.tree.MethodTree;
import com.sun.source.tree.NewClassTree;
import com.sun.source.tree.SynchronizedTree;
import com.sun.source.tree.ThrowTree;
import com.sun.source.tree.Tree;
import com.sun.source.tree.TryTree;
import com.sun.source.tree.VariableTree;
import com.sun.source.tree.WhileLoopTree;
import com.sun.source.util.JavacTask;
import com.sun.source.util.SourcePositions;
import com.sun.source.util.TreePathScanner;
import com.sun.source.util.Trees;
import java.io.File;
import java.util.ArrayList;
import java.util.HashSet;
import java.util.LinkedHashMap;
import java.util.List;
import java.util.Map;
import java.util.Set;
import java.util.TreeSet;
import javax.lang.model.element.Element;
import javax.lang.model.element.ElementKind;
import javax.lang.model.element.ExecutableElement;
import javax.lang.model.element.Modifier;
import javax.lang.model.element.TypeElement;
import javax.lang.model.util.Elements;
import javax.tools.JavaCompiler;
import javax.tools.StandardJavaFileManager;
import javax.tools.ToolProvider;

/** Looks at the source of the class by the rules of LANGUAGE.md that can be told from the outside. */
public final class LanguageTest extends TreePathScanner<Void, Void> {
    private static final Set<String> FACE = new TreeSet<>(List.of(
            "RiddleRoad()", "feed(int,int,int,int,int):int", "end(int):boolean", "road():int", "law():int",
            "fault():int", "gate(int,int):int", "walker(int,int):int", "since(int,int):int", "price(int,int):int",
            "may(int,int,boolean):boolean", "chance(int,int):int", "pass(int):int", "guess(int):boolean",
            "sell(int,int,int):int", "inn(int):int", "walkBack(int):int", "days(int):int", "seed(int):int",
            "cheapest(int,int,boolean):int", "convoy(int,int,boolean):int", "tries(int,int,int):int",
            "bring(int):int", "apart(int):int", "chain():int", "letter(int,int):int", "forget():int",
            "questions(boolean):int", "lie(int):int", "monday(int):int", "live(int):int", "undo():boolean",
            "image():void", "back():boolean", "count(int):int"));
    private static final Set<String> LIBRARY = Set.of(
            "java.lang.String.length", "java.lang.String.charAt", "java.lang.Integer.bitCount",
            "java.lang.Math.max", "java.lang.Math.min", "java.lang.System.arraycopy");
    private static final Set<String> TYPES = Set.of("int", "long", "boolean", "int[]", "int[][]", "java.lang.String");
    private static final Set<String> EXCEPTIONS = Set.of(
            "IllegalStateException", "IllegalArgumentException", "IndexOutOfBoundsException",
            "UnsupportedOperationException", "NoSuchElementException");
    private static final int MOST_CLASSES = 12;
    private static final int MOST_FIELDS = 20;
    private static final int MOST_LINES = 60;
    private static final int MOST_PARAMETERS = 7;
    private static final int DEEPEST = 8;

    private final Trees trees;
    private final CompilationUnitTree unit;
    private final Set<String> names = new HashSet<>();
    private final Set<String> face = new TreeSet<>();
    private final Map<ExecutableElement, Set<ExecutableElement>> calls = new LinkedHashMap<>();
    private final List<String> faults = new ArrayList<>();
    private ExecutableElement inside;
    private int classes = 0;

    private LanguageTest(Trees trees, CompilationUnitTree unit) {
        this.trees = trees;
        this.unit = unit;
        for (String call : FACE) {
            names.add(call.substring(0, call.indexOf('(')));
        }
    }

    private void fault(Tree tree, String rule) {
        SourcePositions positions = trees.getSourcePositions();
        faults.add("line " + unit.getLineMap().getLineNumber(positions.getStartPosition(unit, tree)) + ": " + rule);
    }

    private void forbid(Tree tree) {
        fault(tree, tree.getKind() + " is not of the language");
    }

    private boolean isOwn(Element element) {
        Element outer = element;
        while (outer != null && outer.getKind() != ElementKind.PACKAGE) {
            if (outer.getSimpleName().contentEquals("RiddleRoad")) {
                return true;
            }
            outer = outer.getEnclosingElement();
        }
        return false;
    }

    @Override
    public Void visitImport(ImportTree node, Void v) {
        if (!node.getQualifiedIdentifier().toString().equals("java.util.NoSuchElementException")) {
            fault(node, "import " + node.getQualifiedIdentifier());
        }
        return super.visitImport(node, v);
    }

    @Override
    public Void visitClass(ClassTree node, Void v) {
        classes++;
        Element self = trees.getElement(getCurrentPath());
        boolean top = self.getEnclosingElement().getKind() == ElementKind.PACKAGE;
        Set<Modifier> modifiers = self.getModifiers();
        if (top && !(modifiers.contains(Modifier.PUBLIC) && modifiers.contains(Modifier.FINAL))) {
            fault(node, "the class is public and final");
        }
        if (!top && (!modifiers.contains(Modifier.STATIC) || modifiers.contains(Modifier.PUBLIC)
                || modifiers.contains(Modifier.PROTECTED))) {
            fault(node, "a class inside is static, and not public");
        }
        int fields = 0;
        for (Element member : self.getEnclosedElements()) {
            Set<Modifier> of = member.getModifiers();
            if (member.getKind() == ElementKind.FIELD) {
                fields += of.contains(Modifier.STATIC) ? 0 : 1;
                if (of.contains(Modifier.STATIC) && !of.contains(Modifier.FINAL)) {
                    fault(node, "the static field " + member + " is not final");
                }
            }
            boolean constant = member.toString().equals("NONE");
            if (top && !of.contains(Modifier.PRIVATE) && !constant) {
                face.add(member.getKind() == ElementKind.CONSTRUCTOR ? member.toString()
                        : member + ":" + ((ExecutableElement) member).getReturnType());
            } else if (names.contains(member.getSimpleName().toString())
                    && member.getKind() == ElementKind.METHOD) {
                fault(node, member + " bears the name of a public method");
            }
        }
        if (fields > MOST_FIELDS) {
            fault(node, fields + " fields");
        }
        return super.visitClass(node, v);
    }

    @Override
    public Void visitMethod(MethodTree node, Void v) {
        ExecutableElement before = inside;
        inside = (ExecutableElement) trees.getElement(getCurrentPath());
        calls.putIfAbsent(inside, new HashSet<>());
        SourcePositions positions = trees.getSourcePositions();
        long from = unit.getLineMap().getLineNumber(Math.max(0, positions.getStartPosition(unit, node)));
        long to = unit.getLineMap().getLineNumber(Math.max(0, positions.getEndPosition(unit, node)));
        if (to - from >= MOST_LINES) {
            fault(node, node.getName() + " has " + (to - from + 1) + " lines");
        }
        if (node.getParameters().size() > MOST_PARAMETERS) {
            fault(node, node.getName() + " has too many parameters");
        }
        super.visitMethod(node, v);
        inside = before;
        return null;
    }

    @Override
    public Void visitMethodInvocation(MethodInvocationTree node, Void v) {
        Element called = trees.getElement(getCurrentPath());
        if (called instanceof ExecutableElement method && called.getKind() == ElementKind.METHOD) {
            String name = method.getEnclosingElement() + "." + method.getSimpleName();
            if (!isOwn(method) && !LIBRARY.contains(name)) {
                fault(node, name + " is not of the library");
            }
            if (isOwn(method) && inside != null) {
                calls.get(inside).add(method);
            }
        }
        return super.visitMethodInvocation(node, v);
    }

    @Override
    public Void visitVariable(VariableTree node, Void v) {
        Element self = trees.getElement(getCurrentPath());
        if (self != null) {
            String type = self.asType().toString();
            if (!TYPES.contains(type) && !type.startsWith("RiddleRoad.")) {
                fault(node, "the type " + type);
            }
        }
        return super.visitVariable(node, v);
    }

    @Override
    public Void visitNewClass(NewClassTree node, Void v) {
        boolean anException = EXCEPTIONS.contains(node.getIdentifier().toString());
        Element made = trees.getElement(getCurrentPath());
        if (node.getClassBody() != null || !anException && !isOwn(made)) {
            fault(node, "new " + node.getIdentifier());
        }
        return super.visitNewClass(node, v);
    }

    @Override
    public Void visitThrow(ThrowTree node, Void v) {
        boolean written = node.getExpression() instanceof NewClassTree made
                && EXCEPTIONS.contains(made.getIdentifier().toString());
        if (!written || inside == null || inside.getKind() == ElementKind.CONSTRUCTOR) {
            fault(node, "this throw");
        }
        return super.visitThrow(node, v);
    }

    @Override
    public Void visitBinary(BinaryTree node, Void v) {
        boolean texts = trees.getTypeMirror(getCurrentPath()).toString().equals("java.lang.String");
        if (texts) {
            fault(node, "texts are joined by +");
        }
        if (node.getKind() == Tree.Kind.DIVIDE || node.getKind() == Tree.Kind.REMAINDER) {
            Tree.Kind divisor = node.getRightOperand().getKind();
            boolean constant = divisor == Tree.Kind.INT_LITERAL
                    || node.getRightOperand().toString().matches("[A-Z]+");
            if (!constant) {
                fault(node, "a divisor that is no constant");
            }
        }
        return super.visitBinary(node, v);
    }

    @Override
    public Void visitForLoop(ForLoopTree node, Void v) {
        if (node.getCondition() == null || node.getUpdate().size() != 1) {
            fault(node, "a loop whose end is not seen");
        }
        return super.visitForLoop(node, v);
    }

    @Override
    public Void visitWhileLoop(WhileLoopTree node, Void v) {
        fault(node, "a loop whose end is not seen");
        return super.visitWhileLoop(node, v);
    }

    @Override
    public Void visitDoWhileLoop(DoWhileLoopTree node, Void v) {
        fault(node, "a loop whose end is not seen");
        return super.visitDoWhileLoop(node, v);
    }

    @Override
    public Void visitLambdaExpression(LambdaExpressionTree node, Void v) {
        forbid(node);
        return null;
    }

    @Override
    public Void visitMemberReference(MemberReferenceTree node, Void v) {
        forbid(node);
        return null;
    }

    @Override
    public Void visitTry(TryTree node, Void v) {
        forbid(node);
        return super.visitTry(node, v);
    }

    @Override
    public Void visitSynchronized(SynchronizedTree node, Void v) {
        forbid(node);
        return null;
    }

    @Override
    public Void visitAssert(AssertTree node, Void v) {
        forbid(node);
        return null;
    }

    /** The longest row of calls in which no method comes twice. */
    private List<ExecutableElement> deepest(ExecutableElement from, Set<ExecutableElement> open) {
        List<ExecutableElement> best = new ArrayList<>();
        open.add(from);
        for (ExecutableElement next : calls.getOrDefault(from, Set.of())) {
            if (!open.contains(next)) {
                List<ExecutableElement> row = deepest(next, open);
                if (row.size() > best.size()) {
                    best = row;
                }
            }
        }
        open.remove(from);
        best.add(0, from);
        return best;
    }

    /** A call of a method without a body is one of all that stand in for it. */
    private void joinOverriding(Elements elements) {
        for (ExecutableElement plain : calls.keySet()) {
            for (ExecutableElement method : calls.keySet()) {
                TypeElement type = (TypeElement) method.getEnclosingElement();
                if (elements.overrides(method, plain, type)) {
                    calls.get(plain).addAll(calls.get(method));
                }
            }
        }
    }

    private int close() {
        for (ExecutableElement method : calls.keySet()) {
            List<ExecutableElement> row = deepest(method, new HashSet<>());
            if (row.size() > DEEPEST) {
                faults.add("calls " + row.size() + " deep: " + row);
            }
        }
        if (classes > MOST_CLASSES) {
            faults.add(classes + " classes");
        }
        if (!face.equals(FACE)) {
            faults.add("the face is " + face);
        }
        faults.forEach(System.out::println);
        System.out.println(classes + " classes, " + calls.size() + " methods, " + faults.size() + " faults");
        return faults.isEmpty() && classes > 0 ? 0 : 1;
    }

    public static void main(String[] args) throws Exception {
        JavaCompiler compiler = ToolProvider.getSystemJavaCompiler();
        String source = args.length > 0 ? args[0] : "src/main/java/RiddleRoad.java";
        try (StandardJavaFileManager files = compiler.getStandardFileManager(null, null, null)) {
            JavacTask task = (JavacTask) compiler.getTask(null, files, null, List.of("-proc:none"), null,
                    files.getJavaFileObjects(new File(source)));
            CompilationUnitTree unit = task.parse().iterator().next();
            task.analyze();
            LanguageTest test = new LanguageTest(Trees.instance(task), unit);
            test.scan(unit, null);
            test.joinOverriding(task.getElements());
            System.exit(test.close());
        }
    }
}
