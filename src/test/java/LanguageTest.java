import com.sun.source.tree.AssertTree;
import com.sun.source.tree.BinaryTree;
import com.sun.source.tree.CatchTree;
import com.sun.source.tree.ClassTree;
import com.sun.source.tree.CompilationUnitTree;
import com.sun.source.tree.DoWhileLoopTree;
import com.sun.source.tree.ExpressionTree;
import com.sun.source.tree.ForLoopTree;
import com.sun.source.tree.ImportTree;
import com.sun.source.tree.LambdaExpressionTree;
import com.sun.source.tree.LiteralTree;
import com.sun.source.tree.MemberReferenceTree;
import com.sun.source.tree.MemberSelectTree;
import com.sun.source.tree.MethodInvocationTree;
import com.sun.source.tree.MethodTree;
import com.sun.source.tree.NewClassTree;
import com.sun.source.tree.SynchronizedTree;
import com.sun.source.tree.ThrowTree;
import com.sun.source.tree.Tree;
import com.sun.source.tree.TryTree;
import com.sun.source.tree.TypeCastTree;
import com.sun.source.tree.UnaryTree;
import com.sun.source.tree.VariableTree;
import com.sun.source.tree.WhileLoopTree;
import com.sun.source.util.JavacTask;
import com.sun.source.util.SourcePositions;
import com.sun.source.util.TreePathScanner;
import com.sun.source.util.Trees;
import java.io.File;
import java.nio.file.Files;
import java.util.ArrayList;
import java.util.HashMap;
import java.util.LinkedHashMap;
import java.util.LinkedHashSet;
import java.util.List;
import java.util.Map;
import java.util.Set;
import java.util.TreeMap;
import javax.lang.model.element.Element;
import javax.lang.model.element.ElementKind;
import javax.lang.model.element.ExecutableElement;
import javax.lang.model.element.Modifier;
import javax.lang.model.element.NestingKind;
import javax.lang.model.element.TypeElement;
import javax.lang.model.element.VariableElement;
import javax.lang.model.type.ArrayType;
import javax.lang.model.type.DeclaredType;
import javax.lang.model.type.TypeKind;
import javax.lang.model.type.TypeMirror;
import javax.tools.JavaCompiler;
import javax.tools.StandardJavaFileManager;
import javax.tools.ToolProvider;

/**
 * NineBars.java, as the compiler reads it, against ../shared/LANGUAGE.md, rule by rule, as far as a rule can be told from
 * the text (rules 7 and 13, and of 9 and 12 what only a run shows, are what the other tests run for).
 * Called with a path it looks at that file instead.
 */
public final class LanguageTest extends TreePathScanner<Void, Void> {
    private static final Set<String> EXCEPTIONS = Set.of("IllegalStateException", "IllegalArgumentException",
        "IndexOutOfBoundsException", "ArithmeticException", "UnsupportedOperationException", "NoSuchElementException",
        "RuntimeException");
    private static final Set<String> TEXTS = Set.of("length", "charAt", "isEmpty", "equals", "indexOf", "substring", "toCharArray");
    private static final Set<String> BUILDERS = Set.of("append", "charAt", "setCharAt", "setLength", "deleteCharAt", "reverse",
        "length", "toString");
    private static final Set<String> LISTS = Set.of("add", "get", "set", "remove", "size", "isEmpty", "clear", "of");
    private static final Set<String> ROWS = Set.of("copyOf", "copyOfRange", "fill");
    private static final int MOST_LINES = 60;
    private static final int MOST_DEEP = 8;
    private static final int MOST_CLASSES = 12;
    private static final int MOST_FIELDS = 20;
    private static final int MOST_GIVEN = 7;

    private final String code;
    private final CompilationUnitTree unit;
    private final Trees trees;
    private final SourcePositions places;
    private final Map<String, Set<String>> called = new LinkedHashMap<>();
    private final Map<String, Integer> fields = new TreeMap<>();
    private final Set<String> face = new LinkedHashSet<>();
    private int classes = 0;
    private int looked = 0;
    private int wrong = 0;
    private String in = "";
    private boolean inConstructor = false;

    private LanguageTest(String code, CompilationUnitTree unit, Trees trees) {
        this.code = code;
        this.unit = unit;
        this.trees = trees;
        places = trees.getSourcePositions();
    }

    public static void main(String[] args) throws Exception {
        File file = new File(args.length > 0 ? args[0] : "src/main/java/NineBars.java");
        JavaCompiler compiler = ToolProvider.getSystemJavaCompiler();
        StandardJavaFileManager files = compiler.getStandardFileManager(null, null, null);
        JavacTask task = (JavacTask) compiler.getTask(null, files, null, List.of("-proc:none"), null, files.getJavaFileObjects(file));
        CompilationUnitTree unit = task.parse().iterator().next();
        task.analyze();
        LanguageTest t = new LanguageTest(Files.readString(file.toPath()), unit, Trees.instance(task));
        t.scan(unit, null);
        t.whole();
        System.out.println("LanguageTest: " + t.looked + " places looked at, " + t.wrong + " wrong");
        if (t.wrong != 0) {
            System.exit(1);
        }
    }

    private void must(int rule, boolean good, Tree at, String what) {
        looked++;
        if (!good) {
            wrong++;
            long line = at == null ? 0 : unit.getLineMap().getLineNumber(places.getStartPosition(unit, at));
            System.out.println("LanguageTest: rule " + rule + ": line " + line + ": " + what);
        }
    }

    // ---- what is seen of the whole

    private void whole() {
        must(1, unit.getPackageName() == null, unit, "a package line");
        must(1, unit.getTypeDecls().size() == 1, unit, "more than one class outside");
        must(11, classes <= MOST_CLASSES, unit, classes + " classes");
        fields.forEach((name, many) -> must(11, many <= MOST_FIELDS, unit, name + " has " + many + " fields"));
        for (char c : code.toCharArray()) {
            must(4, c == '\n' || c >= 32 && c < 127, unit, "the sign " + (int) c);
        }
        Map<String, Integer> deep = new HashMap<>();
        for (String name : called.keySet()) {
            deep(name, deep, new ArrayList<>());
        }
        for (String name : face) {
            must(11, deep.getOrDefault(name, 0) <= MOST_DEEP, null, name + " goes " + deep.get(name) + " deep");
        }
        for (String name : called.keySet()) {
            boolean open = face.stream().anyMatch(f -> f.startsWith("NineBars.") && bare(f).equals(bare(name)));
            must(1, face.contains(name) || !open, null, name + " bears a public method's name");
        }
    }

    private static String bare(String name) {
        return name.substring(name.indexOf('.') + 1, name.indexOf('('));
    }

    /** How many calls stand open at most in and under this one; a call that comes back to itself is blamed. */
    private int deep(String name, Map<String, Integer> found, List<String> open) {
        if (found.containsKey(name)) {
            return found.get(name);
        }
        must(8, !open.contains(name), null, "calls itself: " + open + " " + name);
        if (open.contains(name)) {
            return 0;
        }
        open.add(name);
        int most = 0;
        for (String next : called.getOrDefault(name, Set.of())) {
            most = Math.max(most, deep(next, found, open));
        }
        open.remove(name);
        found.put(name, most + 1);
        return most + 1;
    }

    // ---- classes, fields, methods

    private Element element() {
        return trees.getElement(getCurrentPath());
    }

    private TypeMirror type(Tree t) {
        return trees.getTypeMirror(trees.getPath(unit, t));
    }

    private static boolean isOwn(Element e) {
        Element outer = e;
        while (outer != null && !(outer instanceof TypeElement t && t.getNestingKind() == NestingKind.TOP_LEVEL)) {
            outer = outer.getEnclosingElement();
        }
        return outer != null && outer.getSimpleName().contentEquals("NineBars");
    }

    @Override
    public Void visitImport(ImportTree t, Void v) {
        String name = t.getQualifiedIdentifier().toString();
        must(4, !t.isStatic() && Set.of("java.util.NoSuchElementException", "java.util.ArrayList", "java.util.List",
            "java.util.Arrays", "java.util.Iterator").contains(name), t, "import " + name);
        return null;
    }

    @Override
    public Void visitClass(ClassTree t, Void v) {
        TypeElement e = (TypeElement) element();
        classes++;
        Set<Modifier> how = e.getModifiers();
        if (e.getNestingKind() == NestingKind.TOP_LEVEL) {
            must(1, e.getSimpleName().contentEquals("NineBars"), t, "the class " + e);
            must(1, how.equals(Set.of(Modifier.PUBLIC, Modifier.FINAL)), t, "it is " + how);
        } else {
            must(2, e.getNestingKind() == NestingKind.MEMBER || e.getNestingKind() == NestingKind.ANONYMOUS, t, "a local class");
            must(1, !how.contains(Modifier.PUBLIC) && !how.contains(Modifier.PROTECTED), t, e + " is " + how);
            must(1, how.contains(Modifier.STATIC) || e.getNestingKind() == NestingKind.ANONYMOUS, t, e + " isn't static");
        }
        must(6, !e.getSuperclass().toString().startsWith("java.") || e.getSuperclass().toString().equals("java.lang.Object")
            || e.getKind() == ElementKind.ENUM || e.getKind() == ElementKind.RECORD, t, e + " is a " + e.getSuperclass());
        for (Tree member : t.getMembers()) {
            must(5, member.getKind() != Tree.Kind.BLOCK, member, "an initialiser block");
        }
        return super.visitClass(t, v);
    }

    @Override
    public Void visitVariable(VariableTree t, Void v) {
        VariableElement e = (VariableElement) element();
        must(3, isAllowed(e.asType()), t, "the type " + e.asType());
        if (e.getKind() == ElementKind.FIELD) {
            Set<Modifier> how = e.getModifiers();
            String owner = e.getEnclosingElement().toString();
            if (how.contains(Modifier.STATIC)) {
                boolean row = e.asType().getKind() == TypeKind.ARRAY && t.getInitializer() != null;
                must(5, how.contains(Modifier.FINAL) && (e.getConstantValue() != null || row), t, "static " + e);
            } else {
                fields.merge(owner, 1, Integer::sum);
            }
            boolean open = how.contains(Modifier.PUBLIC) && how.contains(Modifier.STATIC) && e.getConstantValue() != null;
            must(1, !owner.equals("NineBars") || how.contains(Modifier.PRIVATE) || open, t, "the field " + e + " is " + how);
        }
        return super.visitVariable(t, v);
    }

    private boolean isAllowed(TypeMirror type) {
        if (type.getKind().isPrimitive()) {
            return true;
        }
        if (type instanceof ArrayType row) {
            TypeMirror part = row.getComponentType();
            boolean numbers = part instanceof ArrayType inner && inner.getComponentType().getKind().isPrimitive();
            return numbers || part.getKind() != TypeKind.ARRAY && isAllowed(part);
        }
        if (type instanceof DeclaredType declared) {
            String name = declared.asElement().toString();
            return isOwn(declared.asElement()) || Set.of("java.lang.String", "java.lang.StringBuilder", "java.util.ArrayList",
                "java.util.List", "java.lang.Integer").contains(name);
        }
        return type.getKind() == TypeKind.TYPEVAR;
    }

    @Override
    public Void visitMethod(MethodTree t, Void v) {
        ExecutableElement e = (ExecutableElement) element();
        String was = in;
        boolean wasConstructor = inConstructor;
        in = nameOf(e);
        inConstructor = e.getKind() == ElementKind.CONSTRUCTOR;
        called.computeIfAbsent(in, k -> new LinkedHashSet<>());
        long from = unit.getLineMap().getLineNumber(Math.max(0, places.getStartPosition(unit, t)));
        long to = unit.getLineMap().getLineNumber(Math.max(0, places.getEndPosition(unit, t)));
        must(11, to - from < MOST_LINES, t, in + " has " + (to - from + 1) + " lines");
        must(11, t.getParameters().size() <= MOST_GIVEN, t, in + " is given " + t.getParameters().size());
        must(3, e.getReturnType().getKind() == TypeKind.VOID || isAllowed(e.getReturnType()), t, in + " answers " + e.getReturnType());
        Set<Modifier> how = e.getModifiers();
        must(1, !how.contains(Modifier.PROTECTED), t, in + " is protected");
        if (e.getEnclosingElement().toString().equals("NineBars")) {
            must(1, how.contains(Modifier.PUBLIC) || how.contains(Modifier.PRIVATE), t, in + " is open to the package");
            if (how.contains(Modifier.PUBLIC)) {
                face.add(in);
            }
        }
        must(10, how.stream().noneMatch(m -> m == Modifier.NATIVE || m == Modifier.SYNCHRONIZED), t, in + " is " + how);
        boolean objects = Set.of("equals", "hashCode", "toString").contains(t.getName().toString());
        must(6, !objects, t, in);
        super.visitMethod(t, v);
        in = was;
        inConstructor = wasConstructor;
        return null;
    }

    private static String nameOf(ExecutableElement e) {
        return ((TypeElement) e.getEnclosingElement()).getQualifiedName().toString().replaceFirst("^NineBars\\.", "") + "." + e;
    }

    // ---- calls

    @Override
    public Void visitMethodInvocation(MethodInvocationTree t, Void v) {
        call((ExecutableElement) element(), t);
        return super.visitMethodInvocation(t, v);
    }

    private void call(ExecutableElement e, Tree t) {
        if (isOwn(e)) {
            called.computeIfAbsent(in, k -> new LinkedHashSet<>()).add(nameOf(e));
            return;
        }
        String owner = e.getEnclosingElement().toString();
        String name = e.getSimpleName().toString();
        boolean good = switch (owner) {
            case "java.lang.Object" -> e.getKind() == ElementKind.CONSTRUCTOR;
            case "java.lang.String" -> TEXTS.contains(name);
            case "java.lang.StringBuilder" -> BUILDERS.contains(name) || e.getKind() == ElementKind.CONSTRUCTOR;
            case "java.util.ArrayList", "java.util.List" -> LISTS.contains(name) || e.getKind() == ElementKind.CONSTRUCTOR;
            case "java.lang.Integer", "java.lang.Long", "java.lang.Math" ->
                e.getModifiers().contains(Modifier.STATIC) && !name.endsWith("Exact")
                    && e.getParameters().stream().allMatch(p -> isWhole(p.asType())) && isWholeOrBoolean(e.getReturnType());
            case "java.lang.System" -> name.equals("arraycopy");
            case "java.util.Arrays" -> ROWS.contains(name);
            default -> e.getKind() == ElementKind.METHOD && name.equals("clone");
        };
        must(4, good, t, "a call of " + owner + "." + name);
    }

    private static boolean isWhole(TypeMirror type) {
        return type.getKind() == TypeKind.INT || type.getKind() == TypeKind.LONG;
    }

    private static boolean isWholeOrBoolean(TypeMirror type) {
        return isWhole(type) || type.getKind() == TypeKind.BOOLEAN;
    }

    @Override
    public Void visitNewClass(NewClassTree t, Void v) {
        String name = t.getIdentifier().toString();
        boolean thrown = getCurrentPath().getParentPath().getLeaf().getKind() == Tree.Kind.THROW;
        if (thrown) {
            must(6, EXCEPTIONS.contains(name), t, "throws " + name);
        } else {
            call((ExecutableElement) element(), t);
        }
        return super.visitNewClass(t, v);
    }

    // ---- statements

    @Override
    public Void visitThrow(ThrowTree t, Void v) {
        boolean made = t.getExpression() instanceof NewClassTree n && n.getClassBody() == null
            && (n.getArguments().isEmpty() || n.getArguments().size() == 1 && isText(n.getArguments().get(0)));
        must(6, made, t, "throws what isn't made there of a written text");
        must(6, !inConstructor, t, "throws in a constructor");
        return super.visitThrow(t, v);
    }

    private static boolean isText(ExpressionTree e) {
        return e.getKind() == Tree.Kind.STRING_LITERAL;
    }

    @Override
    public Void visitTry(TryTree t, Void v) {
        must(6, t.getFinallyBlock() == null, t, "finally");
        must(6, t.getResources().isEmpty(), t, "try with resources");
        return super.visitTry(t, v);
    }

    @Override
    public Void visitCatch(CatchTree t, Void v) {
        must(6, EXCEPTIONS.contains(t.getParameter().getType().toString()), t, "catches " + t.getParameter().getType());
        return super.visitCatch(t, v);
    }

    @Override
    public Void visitAssert(AssertTree t, Void v) {
        must(6, false, t, "assert");
        return super.visitAssert(t, v);
    }

    @Override
    public Void visitSynchronized(SynchronizedTree t, Void v) {
        must(6, false, t, "synchronized");
        return super.visitSynchronized(t, v);
    }

    @Override
    public Void visitLambdaExpression(LambdaExpressionTree t, Void v) {
        must(2, false, t, "a lambda");
        return super.visitLambdaExpression(t, v);
    }

    @Override
    public Void visitMemberReference(MemberReferenceTree t, Void v) {
        must(2, false, t, "a method reference");
        return super.visitMemberReference(t, v);
    }

    @Override
    public Void visitMemberSelect(MemberSelectTree t, Void v) {
        Element e = element();
        if (e instanceof VariableElement f && f.getKind() == ElementKind.FIELD && !f.getSimpleName().contentEquals("length")) {
            must(4, isOwn(f), t, "the field " + t);
        }
        return super.visitMemberSelect(t, v);
    }

    /** A loop's end is seen from its condition: it sets something against a bound, or follows a chain. */
    private void bound(ExpressionTree condition, Tree loop) {
        boolean[] found = {false};
        new TreePathScanner<Void, Void>() {
            @Override
            public Void visitBinary(BinaryTree t, Void v) {
                boolean chain = t.getKind() == Tree.Kind.NOT_EQUAL_TO && t.getRightOperand().getKind() == Tree.Kind.NULL_LITERAL;
                found[0] |= chain || Set.of(Tree.Kind.LESS_THAN, Tree.Kind.LESS_THAN_EQUAL, Tree.Kind.GREATER_THAN,
                    Tree.Kind.GREATER_THAN_EQUAL).contains(t.getKind());
                return super.visitBinary(t, v);
            }
        }.scan(condition == null ? getCurrentPath() : trees.getPath(unit, condition), null);
        must(9, condition != null && found[0], loop, "a loop whose end isn't seen");
    }

    @Override
    public Void visitForLoop(ForLoopTree t, Void v) {
        bound(t.getCondition(), t);
        return super.visitForLoop(t, v);
    }

    @Override
    public Void visitWhileLoop(WhileLoopTree t, Void v) {
        bound(t.getCondition(), t);
        return super.visitWhileLoop(t, v);
    }

    @Override
    public Void visitDoWhileLoop(DoWhileLoopTree t, Void v) {
        bound(t.getCondition(), t);
        return super.visitDoWhileLoop(t, v);
    }

    // ---- parts of statements

    private boolean is(Tree t, String name) {
        TypeMirror type = type(t);
        return type != null && type.toString().equals(name);
    }

    @Override
    public Void visitBinary(BinaryTree t, Void v) {
        Tree.Kind kind = t.getKind();
        if (kind == Tree.Kind.PLUS) {
            must(10, !is(t, "java.lang.String"), t, "texts joined by +");
        }
        if (kind == Tree.Kind.EQUAL_TO || kind == Tree.Kind.NOT_EQUAL_TO) {
            for (String name : List.of("java.lang.String", "java.lang.Integer")) {
                must(6, !is(t.getLeftOperand(), name) || !is(t.getRightOperand(), name), t, "== of " + name);
            }
        }
        return super.visitBinary(t, v);
    }

    @Override
    public Void visitTypeCast(TypeCastTree t, Void v) {
        must(3, isAllowed(type(t.getType())), t, "a cast to " + t.getType());
        return super.visitTypeCast(t, v);
    }

    @Override
    public Void visitUnary(UnaryTree t, Void v) {
        must(10, isAllowed(type(t)), t, "of the type " + type(t));
        return super.visitUnary(t, v);
    }

    @Override
    public Void visitLiteral(LiteralTree t, Void v) {
        if (t.getValue() instanceof String text) {
            must(4, text.chars().allMatch(c -> c >= 1 && c <= 127), t, "signs of " + text);
        }
        return super.visitLiteral(t, v);
    }
}
