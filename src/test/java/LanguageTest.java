import com.sun.source.tree.AssertTree;
import com.sun.source.tree.BinaryTree;
import com.sun.source.tree.ClassTree;
import com.sun.source.tree.CompilationUnitTree;
import com.sun.source.tree.ImportTree;
import com.sun.source.tree.LambdaExpressionTree;
import com.sun.source.tree.MemberReferenceTree;
import com.sun.source.tree.MethodInvocationTree;
import com.sun.source.tree.MethodTree;
import com.sun.source.tree.NewArrayTree;
import com.sun.source.tree.NewClassTree;
import com.sun.source.tree.SynchronizedTree;
import com.sun.source.tree.ThrowTree;
import com.sun.source.tree.Tree;
import com.sun.source.tree.TryTree;
import com.sun.source.tree.VariableTree;
import com.sun.source.util.JavacTask;
import com.sun.source.util.TreePathScanner;
import com.sun.source.util.Trees;
import java.io.File;
import java.util.ArrayList;
import java.util.HashMap;
import java.util.HashSet;
import java.util.List;
import java.util.Map;
import java.util.Set;
import java.util.TreeSet;
import javax.lang.model.element.Element;
import javax.lang.model.element.ElementKind;
import javax.lang.model.element.ExecutableElement;
import javax.lang.model.element.Modifier;
import javax.tools.JavaCompiler;
import javax.tools.StandardJavaFileManager;
import javax.tools.ToolProvider;

/** What of ../shared/LANGUAGE.md can be seen in the text of the class: its rules 1 to 6, 8, 11 and 12. */
public final class LanguageTest {
    private static final Set<String> FACE = Set.of("street", "factor", "way", "arrival", "clock", "parcel", "window",
            "van", "put", "takeOut", "turned", "swapEnds", "savings", "putIn", "putInCost", "better", "exact",
            "roundAt", "ofRound", "served", "does", "undo", "rules", "piece", "unlawful", "mayDrive", "leastTime",
            "door", "locker", "parcelAt", "setZone", "balance", "zone", "together", "share", "blocks", "rates", "pay",
            "books", "meanPay", "filled", "errors", "NONE", "DRIVE", "WORK", "REST", "<init>");
    private static final Set<String> LIBRARY = Set.of("java.lang.Math.max", "java.lang.Math.min",
            "java.lang.Integer.bitCount", "java.lang.System.arraycopy", "java.util.Arrays.fill", "java.lang.Object.<init>");
    private static final Set<String> THROWN = Set.of("IllegalStateException", "IllegalArgumentException",
            "IndexOutOfBoundsException", "NoSuchElementException");
    private static int wrong = 0;

    public static void main(String[] args) throws Exception {
        JavaCompiler compiler = ToolProvider.getSystemJavaCompiler();
        StandardJavaFileManager files = compiler.getStandardFileManager(null, null, null);
        JavacTask task = (JavacTask) compiler.getTask(null, files, null, List.of("-proc:none"), null,
                files.getJavaFileObjects(new File("src/main/java/Couriersday.java")));
        CompilationUnitTree unit = task.parse().iterator().next();
        task.analyze();
        check(unit.getPackageName() == null, "a package line");
        for (ImportTree one : unit.getImports()) {
            String name = one.getQualifiedIdentifier().toString();
            check(name.equals("java.util.Arrays") || name.equals("java.util.NoSuchElementException"), "import " + name);
        }
        check(unit.getTypeDecls().size() == 1, "one class in the file");
        Scan scan = new Scan(unit, Trees.instance(task));
        scan.scan(unit, null);
        check(scan.classes <= 12, "classes: " + scan.classes);
        check(scan.open.equals(new TreeSet<>(FACE)), "the face is " + scan.open);
        for (String name : scan.calls.keySet()) {
            int deep = depth(scan.calls, name, new HashSet<>());
            check(deep <= 8, name + " calls " + deep + " deep");
        }
        System.out.println(wrong == 0 ? "the language is kept" : wrong + " things are not of the language");
        if (wrong != 0) {
            System.exit(1);
        }
    }

    private static void check(boolean isGood, String told) {
        if (!isGood) {
            wrong++;
            System.out.println(told);
        }
    }

    private static int depth(Map<String, Set<String>> calls, String name, Set<String> open) {
        if (!open.add(name)) {
            check(false, "recursion through " + name);
            return 1;
        }
        int deepest = 0;
        for (String called : calls.getOrDefault(name, Set.of())) {
            deepest = Math.max(deepest, depth(calls, called, open));
        }
        open.remove(name);
        return deepest + 1;
    }

    private static final class Scan extends TreePathScanner<Void, Void> {
        private final CompilationUnitTree unit;
        private final Trees trees;
        private int classes = 0;
        private String method = "";
        private final Set<String> open = new TreeSet<>();
        private final Map<String, Set<String>> calls = new HashMap<>();

        Scan(CompilationUnitTree unit, Trees trees) {
            this.unit = unit;
            this.trees = trees;
        }

        private String at(Tree tree) {
            long start = trees.getSourcePositions().getStartPosition(unit, tree);
            return "line " + unit.getLineMap().getLineNumber(start);
        }

        private boolean isOuter(Element element) {
            return element.getEnclosingElement().getSimpleName().contentEquals("Couriersday");
        }

        private void member(Element element) {
            if (isOuter(element) && !element.getModifiers().contains(Modifier.PRIVATE)) {
                check(element.getModifiers().contains(Modifier.PUBLIC), element + " is neither public nor private");
                open.add(element.getSimpleName().toString());
            }
        }

        @Override
        public Void visitClass(ClassTree tree, Void none) {
            classes++;
            Element element = trees.getElement(getCurrentPath());
            Set<Modifier> modifiers = element.getModifiers();
            boolean isNested = element.getEnclosingElement().getKind() == ElementKind.CLASS;
            check(modifiers.contains(Modifier.FINAL), element + " is not final");
            check(isNested ? modifiers.contains(Modifier.STATIC) && modifiers.contains(Modifier.PRIVATE)
                    : modifiers.contains(Modifier.PUBLIC), element + " has other modifiers");
            List<Tree> fields = new ArrayList<>(tree.getMembers());
            fields.removeIf(one -> !(one instanceof VariableTree)
                    || ((VariableTree) one).getModifiers().getFlags().contains(Modifier.STATIC));
            check(fields.size() <= 20, element + " has " + fields.size() + " fields");
            return super.visitClass(tree, none);
        }

        @Override
        public Void visitVariable(VariableTree tree, Void none) {
            Element element = trees.getElement(getCurrentPath());
            String type = element.asType().toString().replaceAll("^Couriersday\\.", "");
            check(Set.of("int", "long", "boolean", "int[]", "int[][]", "long[]", "boolean[]").contains(type)
                    || element.asType().toString().startsWith("Couriersday."), at(tree) + ": type " + type);
            if (element.getKind() == ElementKind.FIELD) {
                member(element);
                if (element.getModifiers().contains(Modifier.STATIC)) {
                    check(((javax.lang.model.element.VariableElement) element).getConstantValue() != null,
                            at(tree) + ": static state");
                }
            }
            return super.visitVariable(tree, none);
        }

        @Override
        public Void visitMethod(MethodTree tree, Void none) {
            ExecutableElement element = (ExecutableElement) trees.getElement(getCurrentPath());
            member(element);
            String name = element.getSimpleName().toString();
            check(isOuter(element) && element.getModifiers().contains(Modifier.PUBLIC)
                    || !FACE.contains(name) || name.equals("<init>"), at(tree) + ": " + name + " is a name of the face");
            check(tree.getParameters().size() <= 7, at(tree) + ": parameters of " + name);
            long start = trees.getSourcePositions().getStartPosition(unit, tree);
            long end = trees.getSourcePositions().getEndPosition(unit, tree);
            if (end >= 0) {
                long lines = unit.getLineMap().getLineNumber(end) - unit.getLineMap().getLineNumber(start) + 1;
                check(lines <= 60, at(tree) + ": " + name + " has " + lines + " lines");
            }
            String before = method;
            method = element.getEnclosingElement() + "." + element;
            calls.putIfAbsent(method, new TreeSet<>());
            super.visitMethod(tree, none);
            method = before;
            return null;
        }

        @Override
        public Void visitMethodInvocation(MethodInvocationTree tree, Void none) {
            Element called = trees.getElement(getCurrentPath());
            String owner = called.getEnclosingElement().toString();
            if (owner.startsWith("Couriersday")) {
                calls.computeIfAbsent(method, key -> new TreeSet<>()).add(owner + "." + called);
            } else {
                check(LIBRARY.contains(owner + "." + called.getSimpleName()), at(tree) + ": calls " + owner + "." + called);
            }
            return super.visitMethodInvocation(tree, none);
        }

        @Override
        public Void visitNewClass(NewClassTree tree, Void none) {
            Element made = trees.getElement(getCurrentPath()).getEnclosingElement();
            boolean isOwn = made.toString().startsWith("Couriersday.");
            check(isOwn || THROWN.contains(made.getSimpleName().toString()), at(tree) + ": makes " + made);
            check(!isOwn || method.contains("Couriersday()"), at(tree) + ": makes an object outside the constructor");
            return super.visitNewClass(tree, none);
        }

        @Override
        public Void visitNewArray(NewArrayTree tree, Void none) {
            check(method.isEmpty() || method.contains("Couriersday()"), at(tree) + ": makes an array in a call");
            return super.visitNewArray(tree, none);
        }

        @Override
        public Void visitThrow(ThrowTree tree, Void none) {
            check(tree.getExpression() instanceof NewClassTree, at(tree) + ": throws what it does not make");
            check(!method.contains("<init>") && !method.matches(".*\\.[A-Z]\\w*\\(.*"), at(tree) + ": throws in a constructor");
            return super.visitThrow(tree, none);
        }

        @Override
        public Void visitBinary(BinaryTree tree, Void none) {
            javax.lang.model.type.TypeMirror type = trees.getTypeMirror(getCurrentPath());
            check(type.getKind().isPrimitive(), at(tree) + ": joins texts by +");
            return super.visitBinary(tree, none);
        }

        @Override
        public Void visitLambdaExpression(LambdaExpressionTree tree, Void none) {
            check(false, at(tree) + ": a lambda");
            return super.visitLambdaExpression(tree, none);
        }

        @Override
        public Void visitMemberReference(MemberReferenceTree tree, Void none) {
            check(false, at(tree) + ": a method reference");
            return super.visitMemberReference(tree, none);
        }

        @Override
        public Void visitTry(TryTree tree, Void none) {
            check(false, at(tree) + ": a try");
            return super.visitTry(tree, none);
        }

        @Override
        public Void visitAssert(AssertTree tree, Void none) {
            check(false, at(tree) + ": an assert");
            return super.visitAssert(tree, none);
        }

        @Override
        public Void visitSynchronized(SynchronizedTree tree, Void none) {
            check(false, at(tree) + ": a synchronized");
            return super.visitSynchronized(tree, none);
        }
    }
}
