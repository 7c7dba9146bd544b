import com.sun.source.tree.AssertTree;
import com.sun.source.tree.BinaryTree;
import com.sun.source.tree.ClassTree;
import com.sun.source.tree.CompilationUnitTree;
import com.sun.source.tree.CompoundAssignmentTree;
import com.sun.source.tree.LambdaExpressionTree;
import com.sun.source.tree.MemberReferenceTree;
import com.sun.source.tree.MethodInvocationTree;
import com.sun.source.tree.MethodTree;
import com.sun.source.tree.NewArrayTree;
import com.sun.source.tree.NewClassTree;
import com.sun.source.tree.SynchronizedTree;
import com.sun.source.tree.ThrowTree;
import com.sun.source.tree.Tree;
import com.sun.source.tree.TryTree;
import com.sun.source.tree.VariableTree;
import com.sun.source.util.JavacTask;
import com.sun.source.util.TreePathScanner;
import com.sun.source.util.Trees;
import java.io.File;
import java.lang.reflect.Constructor;
import java.lang.reflect.Field;
import java.lang.reflect.Method;
import java.lang.reflect.Modifier;
import java.nio.file.Files;
import java.util.ArrayList;
import java.util.HashMap;
import java.util.HashSet;
import java.util.List;
import java.util.Map;
import java.util.Set;
import java.util.TreeSet;
import javax.lang.model.element.Element;
import javax.lang.model.element.ElementKind;
import javax.lang.model.type.DeclaredType;
import javax.tools.JavaCompiler;
import javax.tools.StandardJavaFileManager;
import javax.tools.ToolProvider;

/** What of ../shared/LANGUAGE.md a program can look at: the face, what is left out, and how long and deep it goes. */
public final class LanguageRulesTest {
    private static final Check CHECK = new Check();
    private static final Set<String> FACE = new TreeSet<>(List.of("int status()", "long top()", "long bottom()",
            "boolean tray(int,int,int)", "boolean write(int,int,long)", "long read(int,int)",
            "boolean pour(int,int,int,int,int)", "int feed(int,int,int,int,int)", "int book(int)", "int nights(int)",
            "int fault(int)", "int many(int)", "int cell(int,int)", "int watch()", "int account(int,int)",
            "int law(int,int)", "int balance()", "int copyDigits(int)", "int step(int)", "int doze(int)",
            "int mend(int)", "int steal(int)", "int scratch(int,int)", "int vouch(int)", "int enact(int,int,int,int)",
            "int repeal(int)", "boolean rule(int,int)", "int digitIn(int,int)", "int wrongIn(int)", "int wrongBy(int)",
            "int evenIn()", "int stillIn()", "int bears(int)", "int round(int,int)", "int roundAt(int,int,int)",
            "int far(int)", "int past(int)", "int likely(int,int)", "int leastPast(int)", "int may(int)",
            "int theft()", "int told()", "int rubbed()", "int rubbedSet()", "int game(int)", "int moveOf(int)",
            "boolean dozes(int,int)", "boolean shame()", "int live(int)", "int lived(int)", "boolean mean(int,int)",
            "int mark()", "int back()"));

    /** What of rule 4's library the class uses; what else the rule has may come to this list. */
    private static final Set<String> LIBRARY = Set.of("java.lang.String.length", "java.lang.String.charAt",
            "java.lang.System.arraycopy", "java.lang.Math.max", "java.lang.Math.min", "java.lang.Math.abs",
            "java.lang.Integer.bitCount", "java.util.Arrays.fill", "java.lang.Object.<init>");
    private static final Set<String> STATIC_TYPES = Set.of("int", "long", "boolean", "char", "java.lang.String");
    private static final Set<String> STATIC_ROWS = Set.of("int[]", "long[]", "char[]", "byte[]");

    public static void main(String[] args) throws Exception {
        face();
        // .ci/run starts in the project's folder.
        source(new File("src/main/java/SumsNightwatch.java"));
        CHECK.end("LanguageRulesTest");
    }

    private static void holds(String what, boolean is) {
        CHECK.same(what, is, true);
    }

    private static void face() {
        CHECK.part("rule 1");
        Set<String> seen = new TreeSet<>();
        for (Method m : SumsNightwatch.class.getDeclaredMethods()) {
            if (Modifier.isPublic(m.getModifiers())) {
                List<String> types = new ArrayList<>();
                for (Class<?> type : m.getParameterTypes()) {
                    types.add(type.getName());
                }
                seen.add(m.getReturnType().getName() + " " + m.getName() + "(" + String.join(",", types) + ")");
            } else {
                holds(m.getName() + " is private", Modifier.isPrivate(m.getModifiers()));
            }
        }
        holds("the face is " + seen, seen.equals(FACE));
        for (Field f : SumsNightwatch.class.getDeclaredFields()) {
            holds(f.getName(), Modifier.isPrivate(f.getModifiers()) || f.getName().equals("NONE"));
        }
        Constructor<?>[] made = SumsNightwatch.class.getDeclaredConstructors();
        holds("one constructor", made.length == 1 && Modifier.isPublic(made[0].getModifiers()));
        holds("final", Modifier.isFinal(SumsNightwatch.class.getModifiers()));
        for (Class<?> inside : SumsNightwatch.class.getDeclaredClasses()) {
            holds(inside.getName() + " is static", Modifier.isStatic(inside.getModifiers()));
            holds(inside.getName() + " is not public", !Modifier.isPublic(inside.getModifiers()));
        }
    }

    private static void source(File file) throws Exception {
        JavaCompiler compiler = ToolProvider.getSystemJavaCompiler();
        try (StandardJavaFileManager files = compiler.getStandardFileManager(null, null, null)) {
            JavacTask task = (JavacTask) compiler.getTask(null, files, null, List.of("-proc:none"), null,
                    files.getJavaFileObjects(file));
            CompilationUnitTree unit = task.parse().iterator().next();
            task.analyze();
            unit.getImports().forEach(i -> holds("rule 4: " + i,
                    i.getQualifiedIdentifier().toString().equals("java.util.Arrays")));
            Looker looker = new Looker(Trees.instance(task), unit);
            looker.scan(unit, null);
            looker.end();
        }
        boolean plain = true;
        for (byte b : Files.readAllBytes(file.toPath())) {
            plain = plain && b > 0;
        }
        holds("rule 4: signs 1 to 127", plain);
    }

    private static final class Looker extends TreePathScanner<Void, Void> {
        private final Trees trees;
        private final CompilationUnitTree unit;
        private final Map<Element, Set<Element>> calls = new HashMap<>();
        private Element method = null;
        private int classes = 0;

        Looker(Trees trees, CompilationUnitTree unit) {
            this.trees = trees;
            this.unit = unit;
        }

        private long line(long at) {
            return unit.getLineMap().getLineNumber(at);
        }

        private String where(Tree tree) {
            return " in line " + line(trees.getSourcePositions().getStartPosition(unit, tree));
        }

        private Void leftOut(Tree tree) {
            holds("left out: " + tree.getKind() + where(tree), false);
            return null;
        }

        @Override
        public Void visitThrow(ThrowTree tree, Void none) {
            return leftOut(tree);
        }

        @Override
        public Void visitTry(TryTree tree, Void none) {
            return leftOut(tree);
        }

        @Override
        public Void visitAssert(AssertTree tree, Void none) {
            return leftOut(tree);
        }

        @Override
        public Void visitSynchronized(SynchronizedTree tree, Void none) {
            return leftOut(tree);
        }

        @Override
        public Void visitLambdaExpression(LambdaExpressionTree tree, Void none) {
            return leftOut(tree);
        }

        @Override
        public Void visitMemberReference(MemberReferenceTree tree, Void none) {
            return leftOut(tree);
        }

        @Override
        public Void visitClass(ClassTree tree, Void none) {
            classes++;
            int fields = 0;
            for (Tree member : tree.getMembers()) {
                boolean field = member instanceof VariableTree;
                boolean fixed = field && ((VariableTree) member).getModifiers().toString().contains("static");
                fields += field && !fixed ? 1 : 0;
            }
            holds("rule 11: fields of " + tree.getSimpleName() + " are " + fields, fields <= 20);
            return super.visitClass(tree, none);
        }

        @Override
        public Void visitMethod(MethodTree tree, Void none) {
            Element outer = method;
            method = trees.getElement(getCurrentPath());
            calls.computeIfAbsent(method, m -> new HashSet<>());
            long first = line(trees.getSourcePositions().getStartPosition(unit, tree));
            long last = line(trees.getSourcePositions().getEndPosition(unit, tree));
            holds("rule 11: length of " + method, last - first < 60);
            holds("rule 11: parameters of " + method, tree.getParameters().size() <= 7);
            String name = tree.getName().toString();
            boolean isFace = method.getModifiers().contains(javax.lang.model.element.Modifier.PUBLIC);
            boolean faceName = FACE.stream().anyMatch(f -> f.contains(" " + name + "("));
            holds("rule 1: the name of " + method + where(tree), isFace || !faceName);
            super.visitMethod(tree, none);
            method = outer;
            return null;
        }

        @Override
        public Void visitMethodInvocation(MethodInvocationTree tree, Void none) {
            Element called = trees.getElement(getCurrentPath());
            if (method != null && called != null) {
                calls.get(method).add(called);
            }
            if (called != null) {
                String name = called.getEnclosingElement() + "." + called.getSimpleName();
                holds("rule 4: " + name + where(tree), name.startsWith("SumsNightwatch.") || LIBRARY.contains(name));
            }
            return super.visitMethodInvocation(tree, none);
        }

        @Override
        public Void visitVariable(VariableTree tree, Void none) {
            Element variable = trees.getElement(getCurrentPath());
            if (variable != null && variable.getModifiers().contains(javax.lang.model.element.Modifier.STATIC)) {
                String type = variable.asType().toString();
                boolean row = STATIC_ROWS.contains(type) && tree.getInitializer() instanceof NewArrayTree;
                boolean fixed = variable.getModifiers().contains(javax.lang.model.element.Modifier.FINAL);
                holds("rule 5: " + variable, fixed && (row || STATIC_TYPES.contains(type)));
            }
            return super.visitVariable(tree, none);
        }

        private void joined(Tree tree) {
            boolean text = trees.getTypeMirror(getCurrentPath()) instanceof DeclaredType;
            holds("rule 10: no texts joined" + where(tree), !text);
        }

        @Override
        public Void visitBinary(BinaryTree tree, Void none) {
            joined(tree);
            return super.visitBinary(tree, none);
        }

        @Override
        public Void visitCompoundAssignment(CompoundAssignmentTree tree, Void none) {
            joined(tree);
            return super.visitCompoundAssignment(tree, none);
        }

        /** Stricter than rule 12: nothing is made but with the object itself. */
        private void made(Tree tree) {
            boolean atOnce = method == null || method.getKind() == ElementKind.CONSTRUCTOR;
            holds("rule 12: something is made" + where(tree), atOnce);
        }

        @Override
        public Void visitNewClass(NewClassTree tree, Void none) {
            made(tree);
            return super.visitNewClass(tree, none);
        }

        @Override
        public Void visitNewArray(NewArrayTree tree, Void none) {
            made(tree);
            return super.visitNewArray(tree, none);
        }

        /** How deep calls go, those of the library too; what is open already is recursion and not counted again. */
        private int depth(Element from, Set<Element> open) {
            int deepest = 0;
            open.add(from);
            for (Element to : calls.getOrDefault(from, Set.of())) {
                if (!open.contains(to)) {
                    deepest = Math.max(deepest, depth(to, open));
                }
            }
            open.remove(from);
            return deepest + 1;
        }

        void end() {
            holds("rule 11: classes are " + classes, classes <= 12);
            for (Element m : calls.keySet()) {
                int depth = depth(m, new HashSet<>());
                holds("rule 11: depth of " + m + " is " + depth, depth <= 8);
            }
        }
    }
}
