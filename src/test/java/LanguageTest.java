import com.sun.source.tree.ClassTree;
import com.sun.source.tree.CompilationUnitTree;
import com.sun.source.tree.DoWhileLoopTree;
import com.sun.source.tree.ExpressionTree;
import com.sun.source.tree.ForLoopTree;
import com.sun.source.tree.IdentifierTree;
import com.sun.source.tree.LineMap;
import com.sun.source.tree.LiteralTree;
import com.sun.source.tree.MemberSelectTree;
import com.sun.source.tree.MethodInvocationTree;
import com.sun.source.tree.MethodTree;
import com.sun.source.tree.ParenthesizedTree;
import com.sun.source.tree.Tree;
import com.sun.source.tree.VariableTree;
import com.sun.source.tree.WhileLoopTree;
import com.sun.source.util.JavacTask;
import com.sun.source.util.TreePath;
import com.sun.source.util.TreePathScanner;
import com.sun.source.util.Trees;
import java.io.File;
import java.io.IOException;
import java.util.EnumSet;
import java.util.LinkedHashMap;
import java.util.LinkedHashSet;
import java.util.List;
import java.util.Map;
import java.util.Set;
import javax.lang.model.element.Element;
import javax.lang.model.element.ElementKind;
import javax.lang.model.element.ExecutableElement;
import javax.lang.model.element.Modifier;
import javax.lang.model.type.TypeKind;
import javax.tools.JavaCompiler;
import javax.tools.StandardJavaFileManager;
import javax.tools.ToolProvider;

/**
 * The rules of LANGUAGE.md that can be counted or looked up in the program's text. It is stricter
 * than they are where the program needs less: no library, no exceptions, no recursion, and no object
 * made but by a constructor.
 */
public final class LanguageTest {
    private static final File PROGRAM = new File("src/main/java/PluginRunner.java");
    private static final int MOST_CLASSES = 12;
    private static final int MOST_FIELDS = 20;
    private static final int MOST_LINES = 60;
    private static final int MOST_PARAMETERS = 7;
    private static final int MOST_CALLS_DEEP = 8;
    private static final Set<Tree.Kind> LEFT_OUT = EnumSet.of(Tree.Kind.LAMBDA_EXPRESSION, Tree.Kind.MEMBER_REFERENCE,
            Tree.Kind.TRY, Tree.Kind.THROW, Tree.Kind.SYNCHRONIZED, Tree.Kind.ASSERT, Tree.Kind.IMPORT, Tree.Kind.PACKAGE);
    private static final Set<Tree.Kind> TYPES_OF_CONSTANTS = EnumSet.of(Tree.Kind.PRIMITIVE_TYPE, Tree.Kind.ARRAY_TYPE);

    public static void main(String[] args) throws IOException {
        Kit kit = new Kit("LanguageTest");
        JavaCompiler compiler = ToolProvider.getSystemJavaCompiler();
        try (StandardJavaFileManager files = compiler.getStandardFileManager(null, null, null)) {
            JavacTask task = (JavacTask) compiler.getTask(null, files, null, List.of("--release", "17"), null,
                    files.getJavaFileObjects(PROGRAM));
            CompilationUnitTree program = task.parse().iterator().next();
            task.analyze();
            Reader reader = new Reader(kit, Trees.instance(task), program);
            reader.scan(program, null);
            reader.lookAtAll();
        }
        kit.close();
    }

    /** Goes through the program's text and keeps who calls whom. */
    private static final class Reader extends TreePathScanner<Void, Void> {
        private final Kit kit;
        private final Trees trees;
        private final CompilationUnitTree program;
        private final LineMap lines;
        private final Map<Element, Set<Element>> calls = new LinkedHashMap<>();
        private final Set<String> publicNames = new LinkedHashSet<>();
        private final Set<String> ownNames = new LinkedHashSet<>();
        private Element method = null;
        private int classes = 0;

        Reader(Kit kit, Trees trees, CompilationUnitTree program) {
            this.kit = kit;
            this.trees = trees;
            this.program = program;
            lines = program.getLineMap();
        }

        void lookAtAll() {
            kit.holds("rule 11: " + classes + " classes", classes <= MOST_CLASSES);
            kit.holds("the face was read", publicNames.contains("resume") && calls.size() > publicNames.size());
            for (String name : ownNames) {
                kit.holds("rule 1: a method of our own bears the public name " + name, !publicNames.contains(name));
            }
            for (Element called : calls.keySet()) {
                int deep = deepest(called, Set.of());
                kit.holds("rule 11: " + called + " goes " + deep + " calls deep", deep <= MOST_CALLS_DEEP);
            }
        }

        /** How many methods stand open at once, at most, the first one counted too. */
        private int deepest(Element first, Set<Element> open) {
            if (open.contains(first)) {
                kit.holds("rule 8: " + first + " calls itself", false);
                return 1;
            }
            Set<Element> openInside = new LinkedHashSet<>(open);
            openInside.add(first);
            int inner = 0;
            for (Element called : calls.getOrDefault(first, Set.of())) {
                inner = Math.max(inner, deepest(called, openInside));
            }
            return inner + 1;
        }

        @Override
        public Void scan(Tree tree, Void nothing) {
            if (tree != null) {
                kit.holds(place(tree) + tree.getKind(), !LEFT_OUT.contains(tree.getKind()));
                if (tree.getKind() == Tree.Kind.NEW_CLASS || tree.getKind() == Tree.Kind.NEW_ARRAY) {
                    kit.holds(place(tree) + "rule 12: made by a call", method == null || isConstructor(method));
                }
            }
            return super.scan(tree, nothing);
        }

        @Override
        public Void visitClass(ClassTree tree, Void nothing) {
            classes++;
            boolean outermost = getCurrentPath().getParentPath().getLeaf() == program;
            Set<Modifier> modifiers = tree.getModifiers().getFlags();
            kit.holds(place(tree) + "rule 1: a class inside is private and static",
                    outermost || modifiers.containsAll(EnumSet.of(Modifier.PRIVATE, Modifier.STATIC)));
            int fields = 0;
            for (Tree member : tree.getMembers()) {
                kit.holds(place(member) + "rule 5: no block that sets fields", member.getKind() != Tree.Kind.BLOCK);
                if (member instanceof VariableTree) {
                    fields += isConstant((VariableTree) member) ? 0 : 1;
                }
            }
            kit.holds(place(tree) + "rule 11: " + fields + " fields", fields <= MOST_FIELDS);
            return super.visitClass(tree, nothing);
        }

        private boolean isConstant(VariableTree field) {
            Set<Modifier> modifiers = field.getModifiers().getFlags();
            if (!modifiers.contains(Modifier.STATIC)) {
                return false;
            }
            kit.holds(place(field) + "rule 5: a static field is final", modifiers.contains(Modifier.FINAL));
            kit.holds(place(field) + "rule 5: a number or a row of them", TYPES_OF_CONSTANTS.contains(field.getType().getKind()));
            return true;
        }

        @Override
        public Void visitMethod(MethodTree tree, Void nothing) {
            method = trees.getElement(getCurrentPath());
            calls.put(method, new LinkedHashSet<>());
            if (method.getModifiers().contains(Modifier.PUBLIC)) {
                publicNames.add(tree.getName().toString());
            } else if (!isConstructor(method)) {
                ownNames.add(tree.getName().toString());
            }
            kit.holds(place(tree) + "rule 11: parameters", tree.getParameters().size() <= MOST_PARAMETERS);
            long first = lines.getLineNumber(trees.getSourcePositions().getStartPosition(program, tree));
            long last = lines.getLineNumber(trees.getSourcePositions().getEndPosition(program, tree));
            kit.holds(place(tree) + "rule 11: lines", last - first < MOST_LINES);
            super.visitMethod(tree, nothing);
            method = null;
            return null;
        }

        @Override
        public Void visitMethodInvocation(MethodInvocationTree tree, Void nothing) {
            Element called = trees.getElement(new TreePath(getCurrentPath(), tree.getMethodSelect()));
            if (method != null && !isConstructor(called)) {
                calls.get(method).add(called);
            }
            return super.visitMethodInvocation(tree, nothing);
        }

        @Override
        public Void visitIdentifier(IdentifierTree tree, Void nothing) {
            lookAtOwner(tree);
            return super.visitIdentifier(tree, nothing);
        }

        @Override
        public Void visitMemberSelect(MemberSelectTree tree, Void nothing) {
            lookAtOwner(tree);
            return super.visitMemberSelect(tree, nothing);
        }

        /** Whatever is named must belong to the program; but a row's length, and the constructor of Object. */
        private void lookAtOwner(Tree tree) {
            Element named = trees.getElement(getCurrentPath());
            boolean ofRow = named != null && named.getKind() == ElementKind.FIELD && named.asType().getKind() == TypeKind.INT
                    && named.getSimpleName().contentEquals("length");
            kit.holds(place(tree) + "rule 4: " + tree + " is of the library",
                    named != null && (ofRow || isConstructor(named) || outermostOf(named).equals("PluginRunner")));
        }

        private static String outermostOf(Element named) {
            String outermost = "";
            for (Element e = named; e != null && e.getKind() != ElementKind.PACKAGE; e = e.getEnclosingElement()) {
                outermost = e.getSimpleName().toString();
            }
            return outermost;
        }

        @Override
        public Void visitWhileLoop(WhileLoopTree tree, Void nothing) {
            lookAtLoop(tree, tree.getCondition());
            return super.visitWhileLoop(tree, nothing);
        }

        @Override
        public Void visitDoWhileLoop(DoWhileLoopTree tree, Void nothing) {
            lookAtLoop(tree, tree.getCondition());
            return super.visitDoWhileLoop(tree, nothing);
        }

        @Override
        public Void visitForLoop(ForLoopTree tree, Void nothing) {
            lookAtLoop(tree, tree.getCondition());
            return super.visitForLoop(tree, nothing);
        }

        private void lookAtLoop(Tree loop, ExpressionTree condition) {
            ExpressionTree bare = condition instanceof ParenthesizedTree
                    ? ((ParenthesizedTree) condition).getExpression() : condition;
            kit.holds(place(loop) + "rule 9: the loop has an end", bare != null && !(bare instanceof LiteralTree));
        }

        private static boolean isConstructor(Element element) {
            return element instanceof ExecutableElement && element.getKind() == ElementKind.CONSTRUCTOR;
        }

        private String place(Tree tree) {
            long at = trees.getSourcePositions().getStartPosition(program, tree);
            return at < 0 ? "" : "line " + lines.getLineNumber(at) + ": ";
        }
    }
}
