import com.sun.source.tree.ArrayAccessTree;
import com.sun.source.tree.BinaryTree;
import com.sun.source.tree.ClassTree;
import com.sun.source.tree.CompilationUnitTree;
import com.sun.source.tree.CompoundAssignmentTree;
import com.sun.source.tree.ExpressionTree;
import com.sun.source.tree.ForLoopTree;
import com.sun.source.tree.LiteralTree;
import com.sun.source.tree.MethodInvocationTree;
import com.sun.source.tree.MethodTree;
import com.sun.source.tree.NewArrayTree;
import com.sun.source.tree.NewClassTree;
import com.sun.source.tree.Tree;
import com.sun.source.tree.Tree.Kind;
import com.sun.source.tree.VariableTree;
import com.sun.source.tree.WhileLoopTree;
import com.sun.source.util.JavacTask;
import com.sun.source.util.TreePath;
import com.sun.source.util.TreePathScanner;
import com.sun.source.util.Trees;
import java.io.File;
import java.lang.reflect.Constructor;
import java.lang.reflect.Field;
import java.lang.reflect.Method;
import java.lang.reflect.Modifier;
import java.nio.file.Files;
import java.util.Arrays;
import java.util.List;
import java.util.Map;
import java.util.Set;
import java.util.TreeMap;
import java.util.TreeSet;
import javax.lang.model.element.Element;
import javax.lang.model.element.ElementKind;
import javax.lang.model.element.VariableElement;
import javax.tools.JavaCompiler;
import javax.tools.StandardJavaFileManager;
import javax.tools.ToolProvider;

/** The rules of LANGUAGE.md that can be seen in the source: constructs, sizes, names, depth of calls, the face. */
public final class RulesTest extends TreePathScanner<Void, Void> {
    private static final Set<Kind> FORBIDDEN = Set.of(Kind.THROW, Kind.TRY, Kind.CATCH, Kind.SYNCHRONIZED, Kind.ASSERT,
        Kind.LAMBDA_EXPRESSION, Kind.MEMBER_REFERENCE, Kind.SWITCH_EXPRESSION, Kind.DOUBLE_LITERAL, Kind.FLOAT_LITERAL);
    // The methods that may index a row: each looks at the index first.
    private static final Set<String> INDEXERS = Set.of("Rows.at", "Rows.put", "Reader.byteAt", "Machine.cell",
        "Machine.setCell", "Machine.write", "Routes.step", "Routes.add");
    private static final Set<String> FACE = new TreeSet<>(Arrays.asList("int feed(int,int,int,int,int)", "int end(int)",
        "int bundle()", "int image(int,int)", "boolean factory(int)", "int boot(boolean,int)", "int health(int)",
        "int install(int,int,int)", "int refresh(int,int)", "int prefer(int,int)", "int mend(int)", "int resume(int)",
        "int waits(int)", "boolean off()", "int flip(int,int,int)", "int blot(int,int,int)", "int undo()",
        "int word(int,int)", "int octet(int,int)", "int journal(int)", "int revoked(int)", "int whole(int)",
        "int flag(int,int)", "int why(int)", "int next(boolean)", "int cuts(int,int,int,int)", "int twice(int,int,int)",
        "int lasts(int)", "int slack(int)", "int frail(int)", "int route(int,int)", "int draws(int)",
        "int life(int,int)", "int started(int,int)", "int least(int)", "int count(int)"));
    private static final int MOST_LINES = 60;
    private static final int MOST_PARAMETERS = 7;
    private static final int MOST_FIELDS = 20;
    private static final int MOST_CLASSES = 12;
    private static final int MOST_DEPTH = 8;

    private final Trees trees;
    private final CompilationUnitTree unit;
    private final Map<String, Set<String>> calls = new TreeMap<>();
    private final Set<String> publicNames = new TreeSet<>();
    private final Set<String> otherNames = new TreeSet<>();
    private int classes;
    private int wrong;
    private String method = "";
    private boolean inConstructor;

    private RulesTest(Trees trees, CompilationUnitTree unit) {
        this.trees = trees;
        this.unit = unit;
    }

    public static void main(String[] args) throws Exception {
        File source = new File(args[0]);
        JavaCompiler compiler = ToolProvider.getSystemJavaCompiler();
        int wrong = 0;
        try (StandardJavaFileManager files = compiler.getStandardFileManager(null, null, null)) {
            JavacTask task = (JavacTask) compiler.getTask(null, files, null, List.of("-proc:none"), null,
                files.getJavaFileObjects(source));
            Iterable<? extends CompilationUnitTree> units = task.parse();
            task.analyze();
            for (CompilationUnitTree unit : units) {
                RulesTest rules = new RulesTest(Trees.instance(task), unit);
                rules.scan(unit, null);
                rules.judge();
                wrong += rules.wrong;
            }
        }
        wrong += checkFace() + checkSigns(source);
        System.out.println("RulesTest: " + wrong + " wrong");
        if (wrong > 0) {
            System.exit(1);
        }
    }

    private void wrong(Tree tree, String what) {
        wrong++;
        long line = tree == null ? 0 : unit.getLineMap().getLineNumber(start(tree));
        System.out.println("line " + line + ": " + what);
    }

    private long start(Tree tree) {
        return trees.getSourcePositions().getStartPosition(unit, tree);
    }

    @Override
    public Void scan(Tree tree, Void nothing) {
        if (tree != null && FORBIDDEN.contains(tree.getKind())) {
            wrong(tree, tree.getKind() + " is ruled out");
        }
        return super.scan(tree, nothing);
    }

    @Override
    public Void visitClass(ClassTree tree, Void nothing) {
        classes++;
        if (getCurrentPath().getParentPath().getLeaf().getKind() == Kind.CLASS
                && !tree.getModifiers().getFlags().contains(javax.lang.model.element.Modifier.STATIC)) {
            wrong(tree, "a class inside is not static");
        }
        int fields = 0;
        for (Tree member : tree.getMembers()) {
            if (member instanceof VariableTree field) {
                Set<javax.lang.model.element.Modifier> flags = field.getModifiers().getFlags();
                boolean isStatic = flags.contains(javax.lang.model.element.Modifier.STATIC);
                fields += isStatic ? 0 : 1;
                if (isStatic && !flags.contains(javax.lang.model.element.Modifier.FINAL)) {
                    wrong(field, "a static field is not final");
                }
            }
        }
        if (fields > MOST_FIELDS) {
            wrong(tree, fields + " fields");
        }
        return super.visitClass(tree, nothing);
    }

    @Override
    public Void visitMethod(MethodTree tree, Void nothing) {
        Element element = trees.getElement(getCurrentPath());
        String before = method;
        method = nameOf(element);
        inConstructor = element.getKind() == ElementKind.CONSTRUCTOR;
        calls.computeIfAbsent(method, m -> new TreeSet<>());
        boolean isPublic = element.getModifiers().contains(javax.lang.model.element.Modifier.PUBLIC);
        if (!inConstructor) {
            (isPublic ? publicNames : otherNames).add(tree.getName().toString());
        }
        long end = trees.getSourcePositions().getEndPosition(unit, tree);
        if (end >= 0) {
            long lines = unit.getLineMap().getLineNumber(end) - unit.getLineMap().getLineNumber(start(tree)) + 1;
            if (lines > MOST_LINES) {
                wrong(tree, method + " has " + lines + " lines");
            }
        }
        if (tree.getParameters().size() > MOST_PARAMETERS) {
            wrong(tree, method + " has too many parameters");
        }
        super.visitMethod(tree, nothing);
        method = before;
        inConstructor = false;
        return null;
    }

    private static String nameOf(Element element) {
        return element.getEnclosingElement().getSimpleName() + "." + element.getSimpleName();
    }

    @Override
    public Void visitMethodInvocation(MethodInvocationTree tree, Void nothing) {
        Element element = trees.getElement(new TreePath(getCurrentPath(), tree.getMethodSelect()));
        if (element != null) {
            calls.computeIfAbsent(method, m -> new TreeSet<>()).add(nameOf(element));
        }
        return super.visitMethodInvocation(tree, nothing);
    }

    @Override
    public Void visitNewClass(NewClassTree tree, Void nothing) {
        if (!inConstructor || tree.getClassBody() != null) {
            wrong(tree, "an object is made by a call");
        }
        return super.visitNewClass(tree, nothing);
    }

    @Override
    public Void visitNewArray(NewArrayTree tree, Void nothing) {
        if (!inConstructor) {
            wrong(tree, "a row is made by a call");
        }
        return super.visitNewArray(tree, nothing);
    }

    @Override
    public Void visitArrayAccess(ArrayAccessTree tree, Void nothing) {
        if (!INDEXERS.contains(method)) {
            wrong(tree, method + " indexes a row");
        }
        return super.visitArrayAccess(tree, nothing);
    }

    @Override
    public Void visitBinary(BinaryTree tree, Void nothing) {
        if (tree.getKind() == Kind.DIVIDE || tree.getKind() == Kind.REMAINDER) {
            checkDivisor(tree.getRightOperand());
        }
        if (tree.getKind() == Kind.PLUS
                && trees.getTypeMirror(getCurrentPath()).toString().equals("java.lang.String")) {
            wrong(tree, "texts are joined by +");
        }
        return super.visitBinary(tree, nothing);
    }

    private void checkDivisor(ExpressionTree divisor) {
        Element element = trees.getElement(new TreePath(getCurrentPath(), divisor));
        boolean constant = divisor instanceof LiteralTree
            || element instanceof VariableElement variable && variable.getConstantValue() != null;
        if (!constant && !method.equals("Lives.draw")) {
            wrong(divisor, "a divisor that is no constant");
        }
    }

    @Override
    public Void visitCompoundAssignment(CompoundAssignmentTree tree, Void nothing) {
        if (tree.getKind() == Kind.DIVIDE_ASSIGNMENT || tree.getKind() == Kind.REMAINDER_ASSIGNMENT) {
            checkDivisor(tree.getExpression());
        }
        return super.visitCompoundAssignment(tree, nothing);
    }

    @Override
    public Void visitWhileLoop(WhileLoopTree tree, Void nothing) {
        if (tree.getCondition().toString().equals("(true)")) {
            wrong(tree, "a loop without an end");
        }
        return super.visitWhileLoop(tree, nothing);
    }

    @Override
    public Void visitForLoop(ForLoopTree tree, Void nothing) {
        if (tree.getCondition() == null) {
            wrong(tree, "a loop without an end");
        }
        return super.visitForLoop(tree, nothing);
    }

    private void judge() {
        if (classes > MOST_CLASSES) {
            wrong(null, classes + " classes");
        }
        for (String name : otherNames) {
            if (publicNames.contains(name)) {
                wrong(null, "a method bears the name of a public one: " + name);
            }
        }
        int deepest = 0;
        String chain = "";
        for (String start : calls.keySet()) {
            String found = deepest(start, "");
            int depth = found.split(" ").length;
            if (depth > deepest) {
                deepest = depth;
                chain = found;
            }
        }
        System.out.println("the deepest calls (" + deepest + "): " + chain);
        if (deepest > MOST_DEPTH) {
            wrong(null, "calls too deep");
        }
    }

    /** The longest chain of calls among the methods of the file. */
    private String deepest(String from, String open) {
        if ((" " + open + " ").contains(" " + from + " ")) {
            wrong(null, "a recursion: " + open + " " + from);
            return from;
        }
        String longest = "";
        for (String to : calls.get(from)) {
            if (calls.containsKey(to)) {
                String chain = deepest(to, open + " " + from);
                longest = chain.split(" ").length > longest.split(" ").length || longest.isEmpty() ? chain : longest;
            }
        }
        return longest.isEmpty() ? from : from + " " + longest;
    }

    private static int checkFace() {
        Set<String> face = new TreeSet<>();
        int wrong = 0;
        for (Method method : TwinSlots.class.getDeclaredMethods()) {
            if (Modifier.isPrivate(method.getModifiers())) {
                continue;
            }
            StringBuilder text = new StringBuilder(method.getReturnType() + " " + method.getName() + "(");
            for (Class<?> parameter : method.getParameterTypes()) {
                text.append(text.charAt(text.length() - 1) == '(' ? "" : ",").append(parameter);
            }
            face.add(text + ")");
            wrong += Modifier.isPublic(method.getModifiers()) ? 0 : 1;
        }
        for (Field field : TwinSlots.class.getDeclaredFields()) {
            wrong += Modifier.isPrivate(field.getModifiers()) || field.getName().equals("NONE") ? 0 : 1;
        }
        for (Class<?> inside : TwinSlots.class.getDeclaredClasses()) {
            wrong += Modifier.isPublic(inside.getModifiers()) || Modifier.isProtected(inside.getModifiers()) ? 1 : 0;
        }
        Constructor<?>[] constructors = TwinSlots.class.getDeclaredConstructors();
        boolean one = constructors.length == 1 && Modifier.isPublic(constructors[0].getModifiers())
            && constructors[0].getParameterCount() == 0;
        if (wrong > 0 || !one || !face.equals(FACE) || !Modifier.isFinal(TwinSlots.class.getModifiers())) {
            System.out.println("the face is not the document's: " + face);
            return wrong + 1;
        }
        return 0;
    }

    private static int checkSigns(File source) throws Exception {
        int wrong = 0;
        for (byte sign : Files.readAllBytes(source.toPath())) {
            wrong += sign == 10 || sign >= 32 && sign < 127 ? 0 : 1;
        }
        return wrong;
    }
}
