import com.sun.source.tree.AssertTree;
import com.sun.source.tree.BinaryTree;
import com.sun.source.tree.BlockTree;
import com.sun.source.tree.ClassTree;
import com.sun.source.tree.CompilationUnitTree;
import com.sun.source.tree.DoWhileLoopTree;
import com.sun.source.tree.ForLoopTree;
import com.sun.source.tree.LambdaExpressionTree;
import com.sun.source.tree.MemberReferenceTree;
import com.sun.source.tree.MethodInvocationTree;
import com.sun.source.tree.MethodTree;
import com.sun.source.tree.NewArrayTree;
import com.sun.source.tree.NewClassTree;
import com.sun.source.tree.SynchronizedTree;
import com.sun.source.tree.ThrowTree;
import com.sun.source.tree.Tree;
import com.sun.source.tree.TryTree;
import com.sun.source.tree.TypeCastTree;
import com.sun.source.tree.VariableTree;
import com.sun.source.tree.WhileLoopTree;
import com.sun.source.util.JavacTask;
import com.sun.source.util.TreePathScanner;
import com.sun.source.util.Trees;
import java.lang.reflect.Constructor;
import java.lang.reflect.Field;
import java.lang.reflect.Method;
import java.lang.reflect.Modifier;
import java.nio.file.Files;
import java.nio.file.Path;
import java.util.ArrayList;
import java.util.HashSet;
import java.util.LinkedHashMap;
import java.util.LinkedHashSet;
import java.util.List;
import java.util.Map;
import java.util.Set;
import java.util.TreeSet;
import java.util.regex.Matcher;
import java.util.regex.Pattern;
import javax.lang.model.element.Element;
import javax.tools.JavaCompiler;
import javax.tools.StandardJavaFileManager;
import javax.tools.ToolProvider;

/** The rules of ../shared/LANGUAGE.md that can be seen from the source, and the face of ../shared/DOC.md. */
public final class LanguageTest {
    private static final Path SOURCE = Path.of("src/main/java/FrothShire.java");
    private static final Path DOCUMENT = Path.of("../shared/DOC.md");
    private static final Set<String> LIBRARY = Set.of("java.lang.Math.min", "java.lang.Math.max",
            "java.lang.Integer.bitCount", "java.lang.System.arraycopy", "java.lang.String.charAt",
            "java.lang.String.indexOf", "java.lang.Object.Object");
    private static final int MOST_LINES = 60;
    private static final int MOST_PARAMETERS = 7;
    private static final int MOST_DEEP = 8;
    private static final int MOST_CLASSES = 12;
    private static final int MOST_FIELDS = 20;

    private static int wrong = 0;

    public static void main(String[] args) throws Exception {
        checkFace();
        checkSource();
        System.out.println("LanguageTest: " + wrong + " rules broken");
        if (wrong != 0) {
            System.exit(1);
        }
    }

    private static void broken(String what) {
        wrong++;
        System.out.println("LanguageTest: " + what);
    }

    private static void checkFace() throws Exception {
        Set<String> due = new TreeSet<>();
        Matcher method = Pattern.compile("(?m)^    public (int|boolean) (\\w+)\\((.*)\\);$")
                .matcher(Files.readString(DOCUMENT));
        while (method.find()) {
            String types = method.group(3).replaceAll(" \\w+(?=,|$)", "").replace(" ", "");
            due.add(method.group(1) + " " + method.group(2) + "(" + types + ")");
        }
        Set<String> has = new TreeSet<>();
        for (Method one : FrothShire.class.getDeclaredMethods()) {
            if (Modifier.isPublic(one.getModifiers())) {
                List<String> types = new ArrayList<>();
                for (Class<?> type : one.getParameterTypes()) {
                    types.add(type.getName());
                }
                has.add(one.getReturnType() + " " + one.getName() + "(" + String.join(",", types) + ")");
            } else if (!Modifier.isPrivate(one.getModifiers()) && !one.isSynthetic()) {
                broken("rule 1: " + one + " can be seen");
            }
        }
        if (due.size() != 45 || !due.equals(has)) {
            broken("rule 1: the face is " + has + ", due is " + due);
        }
        for (Field field : FrothShire.class.getDeclaredFields()) {
            if (!Modifier.isPrivate(field.getModifiers()) && !field.getName().equals("NONE")) {
                broken("rule 1: " + field + " can be seen");
            }
        }
        Constructor<?>[] constructors = FrothShire.class.getDeclaredConstructors();
        if (constructors.length != 1 || !Modifier.isPublic(constructors[0].getModifiers())
                || constructors[0].getParameterCount() != 0 || !Modifier.isFinal(FrothShire.class.getModifiers())) {
            broken("rule 1: the class is not final, or its constructor is another one");
        }
    }

    private static void checkSource() throws Exception {
        JavaCompiler compiler = ToolProvider.getSystemJavaCompiler();
        try (StandardJavaFileManager files = compiler.getStandardFileManager(null, null, null)) {
            JavacTask task = (JavacTask) compiler.getTask(null, files, null, List.of("-proc:none"), null,
                    files.getJavaFileObjects(SOURCE));
            CompilationUnitTree unit = task.parse().iterator().next();
            task.analyze();
            if (!unit.getImports().isEmpty() || unit.getPackageName() != null) {
                broken("rule 4: there is an import or a package");
            }
            Rules rules = new Rules(Trees.instance(task), unit);
            rules.scan(unit, null);
            rules.finish();
        }
    }

    /** Walks through the source. */
    private static final class Rules extends TreePathScanner<Void, Void> {
        private final Trees trees;
        private final CompilationUnitTree unit;
        private final Map<Element, Set<Element>> calls = new LinkedHashMap<>();
        private final Set<String> publicNames = new HashSet<>();
        private final Set<String> otherNames = new HashSet<>();
        private Element method = null;
        private int classes = 0;

        Rules(Trees trees, CompilationUnitTree unit) {
            this.trees = trees;
            this.unit = unit;
        }

        private void brokenAt(String what, Tree tree) {
            long place = trees.getSourcePositions().getStartPosition(unit, tree);
            broken(what + " in line " + unit.getLineMap().getLineNumber(place));
        }

        @Override
        public Void visitClass(ClassTree tree, Void none) {
            classes++;
            boolean nested = getCurrentPath().getParentPath().getLeaf() instanceof ClassTree;
            boolean outer = getCurrentPath().getParentPath().getLeaf() instanceof CompilationUnitTree;
            if (!outer && !(nested && tree.getModifiers().getFlags()
                    .contains(javax.lang.model.element.Modifier.STATIC))) {
                brokenAt("rule 2: a class that is local, anonymous or not static", tree);
            }
            int fields = 0;
            for (Tree member : tree.getMembers()) {
                if (member instanceof VariableTree field) {
                    fields += checkField(field) ? 1 : 0;
                } else if (member instanceof BlockTree) {
                    brokenAt("rule 5: an initialiser block", member);
                }
            }
            if (fields > MOST_FIELDS) {
                brokenAt("rule 11: " + fields + " fields", tree);
            }
            return super.visitClass(tree, none);
        }

        /** Whether the field belongs to an object. */
        private boolean checkField(VariableTree field) {
            Set<javax.lang.model.element.Modifier> flags = field.getModifiers().getFlags();
            if (!flags.contains(javax.lang.model.element.Modifier.STATIC)) {
                return true;
            }
            boolean constant = flags.contains(javax.lang.model.element.Modifier.FINAL)
                    && Set.of("int", "long", "boolean", "char", "String").contains(field.getType().toString());
            if (!constant) {
                brokenAt("rule 5: a static field that is no constant", field);
            }
            return false;
        }

        @Override
        public Void visitMethod(MethodTree tree, Void none) {
            method = trees.getElement(getCurrentPath());
            calls.computeIfAbsent(method, key -> new LinkedHashSet<>());
            boolean isPublic = tree.getModifiers().getFlags().contains(javax.lang.model.element.Modifier.PUBLIC);
            if (!tree.getName().contentEquals("<init>")) {
                (isPublic ? publicNames : otherNames).add(tree.getName().toString());
            }
            if (tree.getParameters().size() > MOST_PARAMETERS) {
                brokenAt("rule 11: too many parameters", tree);
            }
            long from = unit.getLineMap().getLineNumber(trees.getSourcePositions().getStartPosition(unit, tree));
            long to = unit.getLineMap().getLineNumber(trees.getSourcePositions().getEndPosition(unit, tree));
            if (to - from + 1 > MOST_LINES) {
                brokenAt("rule 11: a method of " + (to - from + 1) + " lines", tree);
            }
            return super.visitMethod(tree, none);
        }

        @Override
        public Void visitMethodInvocation(MethodInvocationTree tree, Void none) {
            Element called = trees.getElement(getCurrentPath());
            String owner = called.getEnclosingElement().toString();
            String name = called.getSimpleName().contentEquals("<init>") ? "Object" : called.getSimpleName().toString();
            if (owner.startsWith("FrothShire")) {
                calls.get(method).add(called);
            } else if (!LIBRARY.contains(owner + "." + name)) {
                brokenAt("rule 4: " + owner + "." + name, tree);
            }
            return super.visitMethodInvocation(tree, none);
        }

        @Override
        public Void visitBinary(BinaryTree tree, Void none) {
            boolean text = tree.getKind() == Tree.Kind.PLUS && trees.getTypeMirror(getCurrentPath()).toString()
                    .equals("java.lang.String");
            if (text) {
                brokenAt("rule 10: texts joined by +", tree);
            }
            return super.visitBinary(tree, none);
        }

        @Override
        public Void visitForLoop(ForLoopTree tree, Void none) {
            if (tree.getCondition() == null || tree.getUpdate().isEmpty()) {
                brokenAt("rule 9: a loop whose end can't be seen", tree);
            }
            return super.visitForLoop(tree, none);
        }

        @Override
        public Void visitNewClass(NewClassTree tree, Void none) {
            checkMaking(tree);
            return super.visitNewClass(tree, none);
        }

        @Override
        public Void visitNewArray(NewArrayTree tree, Void none) {
            checkMaking(tree);
            return super.visitNewArray(tree, none);
        }

        /** Stricter than rule 12: all calls live in one room, so none of them makes anything. */
        private void checkMaking(Tree tree) {
            if (method != null && !method.getSimpleName().contentEquals("<init>")) {
                brokenAt("rule 12: something made outside a constructor", tree);
            }
        }

        @Override
        public Void visitVariable(VariableTree tree, Void none) {
            if (getCurrentPath().getParentPath().getLeaf() instanceof ClassTree) {
                method = null;
            }
            return super.visitVariable(tree, none);
        }

        @Override
        public Void visitTypeCast(TypeCastTree tree, Void none) {
            if (!Set.of("byte", "char", "int", "long").contains(tree.getType().toString())) {
                brokenAt("rule 6: a cast", tree);
            }
            return super.visitTypeCast(tree, none);
        }

        @Override
        public Void visitWhileLoop(WhileLoopTree tree, Void none) {
            brokenAt("rule 9: a loop without a counter", tree);
            return super.visitWhileLoop(tree, none);
        }

        @Override
        public Void visitDoWhileLoop(DoWhileLoopTree tree, Void none) {
            brokenAt("rule 9: a loop without a counter", tree);
            return super.visitDoWhileLoop(tree, none);
        }

        @Override
        public Void visitTry(TryTree tree, Void none) {
            brokenAt("rule 6: try", tree);
            return super.visitTry(tree, none);
        }

        @Override
        public Void visitThrow(ThrowTree tree, Void none) {
            brokenAt("rule 6: throw", tree);
            return super.visitThrow(tree, none);
        }

        @Override
        public Void visitSynchronized(SynchronizedTree tree, Void none) {
            brokenAt("rule 6: synchronized", tree);
            return super.visitSynchronized(tree, none);
        }

        @Override
        public Void visitAssert(AssertTree tree, Void none) {
            brokenAt("rule 6: assert", tree);
            return super.visitAssert(tree, none);
        }

        @Override
        public Void visitLambdaExpression(LambdaExpressionTree tree, Void none) {
            brokenAt("rule 2: a lambda", tree);
            return super.visitLambdaExpression(tree, none);
        }

        @Override
        public Void visitMemberReference(MemberReferenceTree tree, Void none) {
            brokenAt("rule 2: a method reference", tree);
            return super.visitMemberReference(tree, none);
        }

        void finish() {
            if (classes > MOST_CLASSES) {
                broken("rule 11: " + classes + " classes");
            }
            otherNames.retainAll(publicNames);
            if (!otherNames.isEmpty()) {
                broken("rule 1: not public, but named as a public one: " + otherNames);
            }
            for (Element one : calls.keySet()) {
                int depth = depth(one, new HashSet<>());
                if (depth > MOST_DEEP) {
                    broken("rule 11: calls go " + depth + " deep from " + one);
                }
            }
        }

        /** The longest chain of calls on which no method stands twice. */
        private int depth(Element one, Set<Element> open) {
            open.add(one);
            int deepest = 0;
            for (Element called : calls.getOrDefault(one, Set.of())) {
                if (!open.contains(called)) {
                    deepest = Math.max(deepest, depth(called, open));
                }
            }
            open.remove(one);
            return deepest + 1;
        }
    }
}
