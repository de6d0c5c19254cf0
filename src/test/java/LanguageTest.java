import com.sun.source.tree.AssertTree;
import com.sun.source.tree.BinaryTree;
import com.sun.source.tree.BlockTree;
import com.sun.source.tree.ClassTree;
import com.sun.source.tree.CompilationUnitTree;
import com.sun.source.tree.LambdaExpressionTree;
import com.sun.source.tree.LineMap;
import com.sun.source.tree.MemberReferenceTree;
import com.sun.source.tree.MethodInvocationTree;
import com.sun.source.tree.MethodTree;
import com.sun.source.tree.NewClassTree;
import com.sun.source.tree.SwitchTree;
import com.sun.source.tree.SynchronizedTree;
import com.sun.source.tree.ThrowTree;
import com.sun.source.tree.Tree;
import com.sun.source.tree.TryTree;
import com.sun.source.tree.TypeCastTree;
import com.sun.source.tree.VariableTree;
import com.sun.source.util.JavacTask;
import com.sun.source.util.TreePath;
import com.sun.source.util.TreePathScanner;
import com.sun.source.util.Trees;
import java.lang.reflect.Constructor;
import java.lang.reflect.Field;
import java.lang.reflect.Method;
import java.lang.reflect.Modifier;
import java.nio.file.Files;
import java.nio.file.Path;
import java.util.ArrayList;
import java.util.HashMap;
import java.util.HashSet;
import java.util.List;
import java.util.Map;
import java.util.Set;
import java.util.TreeSet;
import java.util.regex.Matcher;
import java.util.regex.Pattern;
import javax.lang.model.element.Element;
import javax.lang.model.element.ExecutableElement;
import javax.lang.model.type.ArrayType;
import javax.lang.model.type.TypeKind;
import javax.lang.model.type.TypeMirror;
import javax.tools.JavaCompiler;
import javax.tools.StandardJavaFileManager;
import javax.tools.ToolProvider;

/** The class's face against DOC.md, and its source against the rules of LANGUAGE.md that a program can read. */
public final class LanguageTest {
    private static final Set<String> LIBRARY = Set.of("java.lang.String.length", "java.lang.String.charAt",
        "java.lang.String.equals", "java.lang.Integer.bitCount", "java.lang.Math.abs", "java.lang.Math.min",
        "java.lang.Math.max", "java.lang.Math.floorDiv", "java.lang.System.arraycopy", "java.lang.Object.<init>");
    private static final Set<TypeKind> NUMBERS = Set.of(TypeKind.INT, TypeKind.LONG, TypeKind.SHORT, TypeKind.BYTE,
        TypeKind.CHAR);
    private static final Set<String> RESERVED = Set.of("equals", "hashCode", "toString", "finalize", "clone");

    private final Checks checks = new Checks();
    private final Map<String, Set<String>> calls = new HashMap<>();
    private final Set<String> faceNames = new HashSet<>();

    public static void main(String[] args) throws Exception {
        Path source = Path.of(args.length > 0 ? args[0] : "src/main/java/SaidForNothing.java");
        LanguageTest test = new LanguageTest();
        test.face(Path.of("../shared/DOC.md"));
        test.read(source);
        test.depth();
        test.checks.end();
    }

    // ---- the face ----

    private void face(Path doc) throws Exception {
        checks.about("the face");
        Set<String> due = new TreeSet<>();
        Matcher lines = Pattern.compile("    public (\\w+ \\w+\\([^)]*\\));").matcher(Files.readString(doc));
        while (lines.find()) {
            due.add(lines.group(1).replaceAll(" \\w+([,)])", "$1"));
        }
        Set<String> got = new TreeSet<>();
        for (Method m : SaidForNothing.class.getDeclaredMethods()) {
            if (!Modifier.isPrivate(m.getModifiers())) {
                faceNames.add(m.getName());
                got.add(m.toString().replace("public ", "").replace("SaidForNothing.", "").replace(",", ", "));
            }
        }
        checks.due("methods", due.size(), 44);
        checks.that("the methods are " + got + ", due are " + due, got.equals(due));
        int fields = 0;
        for (Field f : SaidForNothing.class.getDeclaredFields()) {
            fields += Modifier.isPrivate(f.getModifiers()) ? 0 : 1;
        }
        checks.due("fields that aren't private", fields, 1);
        Constructor<?>[] constructors = SaidForNothing.class.getConstructors();
        checks.due("constructors", constructors.length, 1);
        checks.due("its parameters", constructors[0].getParameterCount(), 0);
        checks.that("the class is public and final", SaidForNothing.class.getModifiers() == (Modifier.PUBLIC | Modifier.FINAL));
        for (Class<?> inside : SaidForNothing.class.getDeclaredClasses()) {
            checks.that(inside + " is static", Modifier.isStatic(inside.getModifiers()));
        }
    }

    // ---- the source ----

    private void read(Path source) throws Exception {
        checks.about("the language");
        JavaCompiler compiler = ToolProvider.getSystemJavaCompiler();
        try (StandardJavaFileManager files = compiler.getStandardFileManager(null, null, null)) {
            JavacTask task = (JavacTask) compiler.getTask(null, files, null, List.of("-proc:none"), null,
                files.getJavaFileObjects(source));
            CompilationUnitTree unit = task.parse().iterator().next();
            task.analyze();
            checks.due("imports", unit.getImports().size(), 0);
            checks.that("no package", unit.getPackageName() == null);
            new Reader(Trees.instance(task), unit).scan(unit, null);
        }
        String text = Files.readString(source);
        checks.that("signs 1 to 127", text.chars().allMatch(c -> c >= 1 && c <= 127));
    }

    private final class Reader extends TreePathScanner<Void, Void> {
        private final Trees trees;
        private final CompilationUnitTree unit;
        private final LineMap lines;
        private final List<String> open = new ArrayList<>();
        private int classes = 0;

        Reader(Trees trees, CompilationUnitTree unit) {
            this.trees = trees;
            this.unit = unit;
            lines = unit.getLineMap();
        }

        private long line(Tree tree) {
            return lines.getLineNumber(trees.getSourcePositions().getStartPosition(unit, tree));
        }

        private long lineCount(Tree tree) {
            long end = trees.getSourcePositions().getEndPosition(unit, tree);
            return lines.getLineNumber(end) - line(tree) + 1;
        }

        private void never(Tree tree, String what) {
            checks.that("line " + line(tree) + ": " + what, false);
        }

        private String nameOf(Element e) {
            return e.getEnclosingElement() + "." + e.getSimpleName();
        }

        private TypeMirror type(Tree tree) {
            return trees.getTypeMirror(new TreePath(getCurrentPath(), tree));
        }

        private boolean isNumber(TypeMirror type) {
            return NUMBERS.contains(type.getKind());
        }

        private boolean isArrayOfNumbers(TypeMirror type) {
            return type.getKind() == TypeKind.ARRAY && isNumber(((ArrayType) type).getComponentType());
        }

        private boolean isText(TypeMirror type) {
            return type.toString().equals("java.lang.String");
        }

        private boolean isOwn(TypeMirror type) {
            return type.getKind() == TypeKind.DECLARED && type.toString().startsWith("SaidForNothing");
        }

        /** The class needs no more of rule 3 than numbers, texts, its own classes and rows of them. */
        private boolean isPlain(TypeMirror type) {
            boolean single = isNumber(type) || type.getKind() == TypeKind.BOOLEAN || isText(type) || isOwn(type);
            return single || isArrayOfNumbers(type)
                || type.getKind() == TypeKind.ARRAY && isOwn(((ArrayType) type).getComponentType());
        }

        private boolean isConstantOf(TypeMirror type) {
            boolean single = Set.of(TypeKind.INT, TypeKind.LONG, TypeKind.BOOLEAN, TypeKind.CHAR).contains(type.getKind());
            return single || isText(type) || isArrayOfNumbers(type);
        }

        @Override
        public Void visitVariable(VariableTree tree, Void v) {
            Element e = trees.getElement(getCurrentPath());
            checks.that("line " + line(tree) + ": the type " + e.asType(), isPlain(e.asType()));
            if (e.getModifiers().toString().contains("static")) {
                checks.that("line " + line(tree) + ": a static " + e.asType(), isConstantOf(e.asType()));
                checks.that("line " + line(tree) + ": without a constant", tree.getInitializer() != null);
            }
            return super.visitVariable(tree, v);
        }

        @Override
        public Void visitTypeCast(TypeCastTree tree, Void v) {
            checks.that("line " + line(tree) + ": a cast to " + tree.getType(), isNumber(type(tree.getType())));
            return super.visitTypeCast(tree, v);
        }

        @Override
        public Void visitSwitch(SwitchTree tree, Void v) {
            TypeMirror on = type(tree.getExpression());
            checks.that("line " + line(tree) + ": a switch on " + on, isNumber(on));
            return super.visitSwitch(tree, v);
        }

        @Override
        public Void visitClass(ClassTree tree, Void v) {
            classes++;
            Tree around = getCurrentPath().getParentPath().getLeaf();
            checks.that("line " + line(tree) + ": a class within a method",
                around instanceof ClassTree || around instanceof CompilationUnitTree);
            checks.that("some twelve classes", classes <= 12);
            int fields = 0;
            for (Tree member : tree.getMembers()) {
                boolean field = member instanceof VariableTree;
                boolean constant = field && ((VariableTree) member).getModifiers().getFlags().toString().contains("static");
                fields += field && !constant ? 1 : 0;
                if (constant) {
                    checks.that("line " + line(member) + ": static but not final",
                        ((VariableTree) member).getModifiers().getFlags().toString().contains("final"));
                }
                if (member instanceof BlockTree) {
                    never(member, "an initialiser block");
                }
            }
            checks.that(tree.getSimpleName() + " has " + fields + " fields", fields <= 20);
            return super.visitClass(tree, v);
        }

        @Override
        public Void visitMethod(MethodTree tree, Void v) {
            Element e = trees.getElement(getCurrentPath());
            boolean shown = e.getModifiers().toString().contains("public");
            checks.that(tree.getName() + " has at most seven parameters", tree.getParameters().size() <= 7);
            checks.that(tree.getName() + " has at most sixty lines", lineCount(tree) <= 60);
            checks.that("the object's own " + tree.getName(), !RESERVED.contains(tree.getName().toString()));
            checks.that(tree.getName() + " bears a public name", shown || !faceNames.contains(tree.getName().toString()));
            checks.that(tree.getName() + " is shown outside the face", !shown
                || e.getEnclosingElement().getSimpleName().contentEquals("SaidForNothing"));
            open.add(nameOf(e));
            calls.putIfAbsent(nameOf(e), new TreeSet<>());
            super.visitMethod(tree, v);
            open.remove(open.size() - 1);
            return null;
        }

        private void called(Element e, Tree tree) {
            if (!(e instanceof ExecutableElement)) {
                return;
            }
            String name = nameOf(e);
            if (name.startsWith("java.")) {
                checks.that("line " + line(tree) + ": calls " + name, LIBRARY.contains(name));
            } else if (!open.isEmpty()) {
                calls.get(open.get(open.size() - 1)).add(name);
            }
        }

        @Override
        public Void visitMethodInvocation(MethodInvocationTree tree, Void v) {
            called(trees.getElement(getCurrentPath()), tree);
            return super.visitMethodInvocation(tree, v);
        }

        @Override
        public Void visitNewClass(NewClassTree tree, Void v) {
            if (tree.getClassBody() != null) {
                never(tree, "an anonymous class");
            }
            called(trees.getElement(getCurrentPath()), tree);
            return super.visitNewClass(tree, v);
        }

        @Override
        public Void visitBinary(BinaryTree tree, Void v) {
            boolean text = type(tree.getLeftOperand()).toString().equals("java.lang.String")
                || type(tree.getRightOperand()).toString().equals("java.lang.String");
            if (text) {
                never(tree, "an operator between texts");
            }
            return super.visitBinary(tree, v);
        }

        @Override
        public Void visitTry(TryTree tree, Void v) {
            never(tree, "try");
            return null;
        }

        @Override
        public Void visitThrow(ThrowTree tree, Void v) {
            never(tree, "throw");
            return null;
        }

        @Override
        public Void visitSynchronized(SynchronizedTree tree, Void v) {
            never(tree, "synchronized");
            return null;
        }

        @Override
        public Void visitAssert(AssertTree tree, Void v) {
            never(tree, "assert");
            return null;
        }

        @Override
        public Void visitLambdaExpression(LambdaExpressionTree tree, Void v) {
            never(tree, "a lambda");
            return null;
        }

        @Override
        public Void visitMemberReference(MemberReferenceTree tree, Void v) {
            never(tree, "a method reference");
            return null;
        }
    }

    // ---- calls in calls ----

    private void depth() {
        checks.about("the depth");
        for (String method : calls.keySet()) {
            int depth = depthOf(method, new ArrayList<>());
            checks.that(method + " goes " + depth + " deep", depth <= 8);
        }
    }

    private int depthOf(String method, List<String> path) {
        if (path.contains(method)) {
            checks.that("recursion: " + path + " " + method, false);
            return 0;
        }
        path.add(method);
        int deepest = 0;
        for (String next : calls.getOrDefault(method, Set.of())) {
            deepest = Math.max(deepest, depthOf(next, path));
        }
        path.remove(path.size() - 1);
        return deepest + 1;
    }
}
