import com.sun.source.tree.ArrayTypeTree;
import com.sun.source.tree.AssertTree;
import com.sun.source.tree.ClassTree;
import com.sun.source.tree.CompilationUnitTree;
import com.sun.source.tree.LambdaExpressionTree;
import com.sun.source.tree.MemberReferenceTree;
import com.sun.source.tree.MethodInvocationTree;
import com.sun.source.tree.MethodTree;
import com.sun.source.tree.NewClassTree;
import com.sun.source.tree.SynchronizedTree;
import com.sun.source.tree.ThrowTree;
import com.sun.source.tree.Tree;
import com.sun.source.tree.TryTree;
import com.sun.source.tree.TypeCastTree;
import com.sun.source.tree.VariableTree;
import com.sun.source.util.JavacTask;
import com.sun.source.util.TreePathScanner;
import com.sun.source.util.Trees;
import java.io.IOException;
import java.nio.file.Path;
import java.util.HashSet;
import java.util.LinkedHashMap;
import java.util.LinkedHashSet;
import java.util.List;
import java.util.Map;
import java.util.Set;
import javax.lang.model.element.Element;
import javax.lang.model.element.ElementKind;
import javax.lang.model.element.ExecutableElement;
import javax.lang.model.element.Modifier;
import javax.lang.model.element.TypeElement;
import javax.tools.JavaCompiler;
import javax.tools.StandardJavaFileManager;
import javax.tools.ToolProvider;

/**
 * Holds the program's source to the rules of LANGUAGE.md that can be counted. Where a rule allows
 * what this program does without (exceptions, recursion, casts, most of the library), the test
 * holds it to doing without: then nothing needs a second look.
 */
public final class LanguageTest {
    private static final Path PROGRAM = Path.of("src/main/java/NameNet.java");
    private static final Set<String> LIBRARY = Set.of("java.lang.Math.max(int,int)",
            "java.lang.Math.min(int,int)");

    public static void main(String[] args) throws IOException {
        JavaCompiler compiler = ToolProvider.getSystemJavaCompiler();
        try (StandardJavaFileManager files = compiler.getStandardFileManager(null, null, null)) {
            JavacTask task = (JavacTask) compiler.getTask(null, files, null,
                    List.of("--release", "17", "-proc:none"), null,
                    files.getJavaFileObjects(PROGRAM));
            CompilationUnitTree unit = task.parse().iterator().next();
            task.analyze();
            Reader reader = new Reader(Trees.instance(task), unit);
            reader.scan(unit, null);
            theFileHoldsOneClass(unit);
            theClassesAreFew(reader);
            callsAreShallow(reader.calls);
        }
        Check.end();
    }

    private static void theFileHoldsOneClass(CompilationUnitTree unit) {
        Check.says("one file [..] without a package line [..] one public class");
        Check.due("no package", unit.getPackage() == null, true);
        Check.due("no import", unit.getImports().size(), 0);
        Check.due("classes outside", unit.getTypeDecls().size(), 1);
    }

    private static void theClassesAreFew(Reader reader) {
        Check.says("the file has at most some twelve classes");
        Check.due(reader.classes + " classes", reader.classes <= 12, true);
    }

    private static void callsAreShallow(Map<ExecutableElement, Set<ExecutableElement>> calls) {
        Check.says("calls that are no recursion go at most eight deep");
        for (ExecutableElement method : calls.keySet()) {
            int depth = depth(method, calls, new HashSet<>());
            Check.due(depth + " calls from " + method + " on", depth <= 8, true);
        }
    }

    /** How many calls stand open at most, this one too; more than any limit if one recurs. */
    private static int depth(ExecutableElement method,
            Map<ExecutableElement, Set<ExecutableElement>> calls, Set<ExecutableElement> open) {
        if (!open.add(method)) {
            return 1000;
        }
        int deepest = 0;
        for (ExecutableElement called : calls.getOrDefault(method, Set.of())) {
            deepest = Math.max(deepest, depth(called, calls, open));
        }
        open.remove(method);
        return deepest + 1;
    }

    private static final class Reader extends TreePathScanner<Void, Void> {
        private final Trees trees;
        private final CompilationUnitTree unit;
        private final Map<ExecutableElement, Set<ExecutableElement>> calls = new LinkedHashMap<>();
        private ExecutableElement within;
        private int classes;

        Reader(Trees trees, CompilationUnitTree unit) {
            this.trees = trees;
            this.unit = unit;
        }

        private long line(long position) {
            return unit.getLineMap().getLineNumber(position);
        }

        private String place(Tree tree) {
            return "line " + line(trees.getSourcePositions().getStartPosition(unit, tree));
        }

        private Element here() {
            return trees.getElement(getCurrentPath());
        }

        private void isNotUsed(String what, Tree tree) {
            Check.says("what the program does without");
            Check.due(place(tree) + ": " + what, 1, 0);
        }

        @Override
        public Void visitClass(ClassTree tree, Void none) {
            classes++;
            Element element = here();
            if (element.getEnclosingElement().getKind() != ElementKind.PACKAGE) {
                Check.says("the classes inside it, which are private or package-visible and static");
                Set<Modifier> modifiers = element.getModifiers();
                Check.due(place(tree) + ": static", modifiers.contains(Modifier.STATIC), true);
                Check.due(place(tree) + ": public", modifiers.contains(Modifier.PUBLIC), false);
                Check.due(place(tree) + ": protected",
                        modifiers.contains(Modifier.PROTECTED), false);
            }
            Check.says("a class some twenty fields beside its constants");
            long fields = element.getEnclosedElements().stream()
                    .filter(e -> e.getKind() == ElementKind.FIELD)
                    .filter(e -> !e.getModifiers().contains(Modifier.STATIC)).count();
            Check.due(place(tree) + ": " + fields + " fields", fields <= 20, true);
            Check.says("no static initialiser block");
            for (Tree member : tree.getMembers()) {
                Check.due(place(member), member.getKind() == Tree.Kind.BLOCK, false);
            }
            return super.visitClass(tree, none);
        }

        @Override
        public Void visitMethod(MethodTree tree, Void none) {
            long first = line(trees.getSourcePositions().getStartPosition(unit, tree));
            long last = line(trees.getSourcePositions().getEndPosition(unit, tree));
            Check.says("A method takes at most seven parameters");
            Check.due(place(tree), tree.getParameters().size() <= 7, true);
            Check.says("Methods stay short (some sixty lines)");
            Check.due(place(tree), last - first + 1 <= 60, true);
            within = (ExecutableElement) here();
            calls.putIfAbsent(within, new LinkedHashSet<>());
            super.visitMethod(tree, none);
            within = null;
            return null;
        }

        @Override
        public Void visitVariable(VariableTree tree, Void none) {
            Element element = here();
            Set<Modifier> modifiers = element.getModifiers();
            if (element.getKind() == ElementKind.FIELD && modifiers.contains(Modifier.STATIC)) {
                Check.says("Static fields are final: constants of int, long, boolean, char");
                Check.due(place(tree), modifiers.contains(Modifier.FINAL)
                        && element.asType().getKind().isPrimitive(), true);
            }
            Check.says("Types: int, long, short, byte, char, boolean");
            String type = element.asType().toString().replace("[]", "");
            Check.due(place(tree) + ": " + type, Set.of("int", "char", "boolean").contains(type)
                    || type.startsWith("NameNet."), true);
            return super.visitVariable(tree, none);
        }

        @Override
        public Void visitArrayType(ArrayTypeTree tree, Void none) {
            Check.says("arrays of these and of your own classes, of one dimension");
            Check.due(place(tree), tree.getType() instanceof ArrayTypeTree, false);
            return super.visitArrayType(tree, none);
        }

        @Override
        public Void visitMethodInvocation(MethodInvocationTree tree, Void none) {
            addCall(tree);
            return super.visitMethodInvocation(tree, none);
        }

        @Override
        public Void visitNewClass(NewClassTree tree, Void none) {
            addCall(tree);
            return super.visitNewClass(tree, none);
        }

        /** Fields' initialisers are left out: they run as a part of the constructors. */
        private void addCall(Tree tree) {
            ExecutableElement called = (ExecutableElement) here();
            TypeElement owner = (TypeElement) called.getEnclosingElement();
            String text = owner.getQualifiedName() + "." + called;
            if (owner.getQualifiedName().toString().startsWith("NameNet")) {
                if (within != null) {
                    calls.get(within).add(called);
                }
            } else if (!text.equals("java.lang.Object.Object()")) {
                Check.says("The library: only what stands here");
                Check.due(place(tree) + ": " + text, LIBRARY.contains(text), true);
            }
        }

        @Override
        public Void visitLambdaExpression(LambdaExpressionTree tree, Void none) {
            isNotUsed("a lambda", tree);
            return super.visitLambdaExpression(tree, none);
        }

        @Override
        public Void visitMemberReference(MemberReferenceTree tree, Void none) {
            isNotUsed("a method reference", tree);
            return super.visitMemberReference(tree, none);
        }

        @Override
        public Void visitSynchronized(SynchronizedTree tree, Void none) {
            isNotUsed("synchronized", tree);
            return super.visitSynchronized(tree, none);
        }

        @Override
        public Void visitAssert(AssertTree tree, Void none) {
            isNotUsed("assert", tree);
            return super.visitAssert(tree, none);
        }

        @Override
        public Void visitTry(TryTree tree, Void none) {
            isNotUsed("try", tree);
            return super.visitTry(tree, none);
        }

        @Override
        public Void visitThrow(ThrowTree tree, Void none) {
            isNotUsed("throw", tree);
            return super.visitThrow(tree, none);
        }

        @Override
        public Void visitTypeCast(TypeCastTree tree, Void none) {
            isNotUsed("a cast", tree);
            return super.visitTypeCast(tree, none);
        }
    }
}
