import com.sun.source.tree.*;
import com.sun.source.util.JavacTask;
import com.sun.source.util.SourcePositions;
import com.sun.source.util.TreePath;
import com.sun.source.util.TreePathScanner;
import com.sun.source.util.Trees;
import java.nio.file.Files;
import java.nio.file.Path;
import java.util.HashMap;
import java.util.HashSet;
import java.util.List;
import java.util.Map;
import java.util.Set;
import java.util.TreeSet;
import javax.lang.model.element.Element;
import javax.lang.model.element.ElementKind;
import javax.lang.model.element.ExecutableElement;
import javax.lang.model.element.Modifier;
import javax.lang.model.type.TypeKind;
import javax.lang.model.type.TypeMirror;
import javax.tools.JavaCompiler;
import javax.tools.StandardJavaFileManager;
import javax.tools.ToolProvider;

/** Looks through the program for what LANGUAGE.md rules out, as far as the text of it can tell. */
public final class LanguageTest {
    private static final Path SOURCE = Path.of("src/main/java/BeltKnots.java");

    private static final Set<String> FACE = Set.of("NONE", "tie", "cut", "fast", "give", "storm", "belt", "set",
            "append", "clearBuffer", "firstError", "work", "stopped", "told", "undo", "keep", "restore", "letter",
            "knot", "name", "fisher", "drowned", "find", "count", "whyNot", "noGift", "ifStorm", "bestBelt",
            "trueShare", "digest", "<init>");

    private static final Set<String> LIBRARY = Set.of("java.lang.String.charAt", "java.lang.String.length",
            "java.lang.String.indexOf", "java.lang.System.arraycopy", "java.lang.Object.<init>",
            "java.lang.IllegalStateException.<init>", "java.lang.IllegalArgumentException.<init>",
            "java.lang.IndexOutOfBoundsException.<init>");

    /** The places that may name an array's element or divide by a number that is not written out: each tests it first. */
    private static final Set<String> TESTED = Set.of("Word.add", "Word.at", "State.at", "State.put", "Buffer.at",
            "Buffer.add", "Sea.loosenedBehind", "Tally.shareThatReadsTrue");

    private static final Set<Tree.Kind> RULED_OUT = Set.of(Tree.Kind.LAMBDA_EXPRESSION, Tree.Kind.MEMBER_REFERENCE,
            Tree.Kind.TRY, Tree.Kind.SYNCHRONIZED, Tree.Kind.ASSERT, Tree.Kind.IMPORT, Tree.Kind.PACKAGE,
            Tree.Kind.SWITCH_EXPRESSION, Tree.Kind.TYPE_CAST, Tree.Kind.INSTANCE_OF, Tree.Kind.PLUS_ASSIGNMENT);

    private static int wrong;
    private static final Map<String, Set<String>> calls = new HashMap<>();

    private static void fault(String text) {
        wrong++;
        System.out.println(text);
    }

    private static final class Look extends TreePathScanner<Void, Void> {
        private final Trees trees;
        private final CompilationUnitTree unit;
        private final SourcePositions places;
        private String type = "";
        private String method = "";
        private int types;

        Look(Trees trees, CompilationUnitTree unit) {
            this.trees = trees;
            this.unit = unit;
            this.places = trees.getSourcePositions();
        }

        private long line(long place) {
            return unit.getLineMap().getLineNumber(place);
        }

        private String at(Tree tree) {
            return "line " + line(places.getStartPosition(unit, tree)) + ": ";
        }

        private Element element(Tree tree) {
            return trees.getElement(TreePath.getPath(unit, tree));
        }

        private TypeMirror typeOf(Tree tree) {
            return trees.getTypeMirror(TreePath.getPath(unit, tree));
        }

        private boolean isNumber(Tree tree) {
            TypeKind kind = typeOf(tree).getKind();
            return kind.isPrimitive() && kind != TypeKind.BOOLEAN;
        }

        @Override public Void scan(Tree tree, Void none) {
            if (tree != null && RULED_OUT.contains(tree.getKind())) {
                boolean castOfNumber = tree instanceof TypeCastTree cast && isNumber(cast.getExpression());
                boolean sumOfNumbers = tree instanceof CompoundAssignmentTree sum && isNumber(sum.getVariable());
                if (!castOfNumber && !sumOfNumbers) {
                    fault(at(tree) + tree.getKind());
                }
            }
            return super.scan(tree, none);
        }

        @Override public Void visitClass(ClassTree tree, Void none) {
            String outer = type;
            type = tree.getSimpleName().toString();
            types++;
            if (outer.isEmpty() != type.equals("BeltKnots") || types > 12) {
                fault(at(tree) + "a class beside the one, or more than twelve");
            }
            Set<Modifier> flags = tree.getModifiers().getFlags();
            if (!outer.isEmpty() && !(flags.contains(Modifier.STATIC) && flags.contains(Modifier.PRIVATE))) {
                fault(at(tree) + "a class inside that is not private and static");
            }
            long fields = tree.getMembers().stream().filter(m -> m instanceof VariableTree v
                    && !v.getModifiers().getFlags().contains(Modifier.STATIC)).count();
            if (fields > 20) {
                fault(at(tree) + "more than twenty fields");
            }
            super.visitClass(tree, none);
            type = outer;
            return null;
        }

        @Override public Void visitVariable(VariableTree tree, Void none) {
            Element element = element(tree);
            Set<Modifier> flags = tree.getModifiers().getFlags();
            if (element.getKind() == ElementKind.FIELD && flags.contains(Modifier.STATIC)
                    && !(flags.contains(Modifier.FINAL) && typeOf(tree).getKind().isPrimitive())) {
                fault(at(tree) + "a static field that is no constant");
            }
            if (element.getKind() == ElementKind.FIELD && type.equals("BeltKnots")) {
                member(tree, tree.getName().toString(), flags);
            }
            return super.visitVariable(tree, none);
        }

        private void member(Tree tree, String name, Set<Modifier> flags) {
            boolean open = flags.contains(Modifier.PUBLIC);
            if (!open && !flags.contains(Modifier.PRIVATE) || open != FACE.contains(name)) {
                fault(at(tree) + name + " is not of the face, or is of it and not public");
            }
        }

        @Override public Void visitMethod(MethodTree tree, Void none) {
            method = type + "." + tree.getName();
            if (!calls.computeIfAbsent(method, m -> new HashSet<>()).isEmpty()) {
                fault(at(tree) + "two methods " + method);
            }
            if (type.equals("BeltKnots")) {
                member(tree, tree.getName().toString(), tree.getModifiers().getFlags());
            } else if (FACE.contains(tree.getName().toString()) && tree.getReturnType() != null) {
                fault(at(tree) + "a method inside with a name of the face");
            }
            long lines = line(places.getEndPosition(unit, tree)) - line(places.getStartPosition(unit, tree));
            if (lines >= 60 || tree.getParameters().size() > 7) {
                fault(at(tree) + "a long method, or many parameters");
            }
            super.visitMethod(tree, none);
            method = "";
            return null;
        }

        private void called(Tree tree, Element element) {
            if (!(element instanceof ExecutableElement)) {
                return;
            }
            String owner = element.getEnclosingElement().toString();
            String name = owner + "." + element.getSimpleName();
            if (owner.startsWith("BeltKnots")) {
                String called = element.getEnclosingElement().getSimpleName() + "." + element.getSimpleName();
                calls.computeIfAbsent(method, m -> new HashSet<>()).add(called);
            } else if (!LIBRARY.contains(name)) {
                fault(at(tree) + "the library's " + name);
            }
        }

        @Override public Void visitMethodInvocation(MethodInvocationTree tree, Void none) {
            called(tree, element(tree));
            return super.visitMethodInvocation(tree, none);
        }

        @Override public Void visitNewClass(NewClassTree tree, Void none) {
            called(tree, element(tree));
            if (!method.equals("BeltKnots.<init>") && getCurrentPath().getParentPath().getLeaf().getKind()
                    != Tree.Kind.THROW) {
                fault(at(tree) + "an object that is made by a call");
            }
            return super.visitNewClass(tree, none);
        }

        @Override public Void visitNewArray(NewArrayTree tree, Void none) {
            if (!method.isEmpty()) {
                fault(at(tree) + "an array that is made by a call");
            }
            return super.visitNewArray(tree, none);
        }

        @Override public Void visitThrow(ThrowTree tree, Void none) {
            if (method.endsWith("<init>")) {
                fault(at(tree) + "a throw in a constructor");
            }
            return super.visitThrow(tree, none);
        }

        @Override public Void visitArrayAccess(ArrayAccessTree tree, Void none) {
            tested(tree);
            return super.visitArrayAccess(tree, none);
        }

        private void tested(Tree tree) {
            if (!TESTED.contains(method)) {
                fault(at(tree) + "an element or a divisor in " + method);
            }
        }

        @Override public Void visitBinary(BinaryTree tree, Void none) {
            Tree.Kind kind = tree.getKind();
            if (kind == Tree.Kind.PLUS && !isNumber(tree)) {
                fault(at(tree) + "texts joined by +");
            }
            boolean divides = kind == Tree.Kind.DIVIDE || kind == Tree.Kind.REMAINDER;
            boolean byName = tree.getRightOperand() instanceof IdentifierTree name
                    && element(name).getModifiers().containsAll(List.of(Modifier.STATIC, Modifier.FINAL));
            if (divides && !(tree.getRightOperand() instanceof LiteralTree) && !byName) {
                tested(tree);
            }
            return super.visitBinary(tree, none);
        }
    }

    /** How many calls stand open at once at the most from this method on. */
    private static int depth(String method, Set<String> open) {
        if (!open.add(method)) {
            fault(method + " calls itself");
            return 0;
        }
        int deepest = 0;
        for (String called : calls.getOrDefault(method, Set.of())) {
            deepest = Math.max(deepest, depth(called, open));
        }
        open.remove(method);
        return deepest + 1;
    }

    public static void main(String[] args) throws Exception {
        JavaCompiler compiler = ToolProvider.getSystemJavaCompiler();
        StandardJavaFileManager files = compiler.getStandardFileManager(null, null, null);
        JavacTask task = (JavacTask) compiler.getTask(null, files, null, List.of("-proc:none"), null,
                files.getJavaFileObjects(SOURCE));
        CompilationUnitTree unit = task.parse().iterator().next();
        task.analyze();
        new Look(Trees.instance(task), unit).scan(unit, null);
        int deepest = 0;
        for (String method : new TreeSet<>(calls.keySet())) {
            int depth = depth(method, new HashSet<>());
            deepest = Math.max(deepest, depth);
            if (depth > 8) {
                fault(method + " goes " + depth + " calls deep");
            }
        }
        if (!Files.readString(SOURCE).chars().allMatch(c -> c == '\n' || c >= 32 && c < 127)) {
            fault("a sign that is not of 32 to 126");
        }
        System.out.println(calls.size() + " methods, at most " + deepest + " calls deep, " + wrong + " faults");
        System.exit(wrong == 0 ? 0 : 1);
    }
}
