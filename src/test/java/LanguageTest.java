import com.sun.source.tree.*;
import com.sun.source.util.JavacTask;
import com.sun.source.util.SourcePositions;
import com.sun.source.util.TreePath;
import com.sun.source.util.TreePathScanner;
import com.sun.source.util.Trees;
import java.nio.file.Files;
import java.nio.file.Path;
import java.util.ArrayList;
import java.util.HashMap;
import java.util.HashSet;
import java.util.LinkedHashMap;
import java.util.List;
import java.util.Map;
import java.util.Set;
import java.util.TreeSet;
import java.util.regex.Matcher;
import java.util.regex.Pattern;
import javax.lang.model.element.Element;
import javax.lang.model.element.ElementKind;
import javax.lang.model.element.ExecutableElement;
import javax.lang.model.element.Modifier;
import javax.tools.JavaCompiler;
import javax.tools.StandardJavaFileManager;
import javax.tools.ToolProvider;

/** The rules of ../shared/LANGUAGE.md that can be read off the source of CatWitness. */
public final class LanguageTest extends TreePathScanner<Void, Void> {
    private static final Set<String> LIBRARY = Set.of(
        "java.lang.String.length", "java.lang.String.charAt", "java.lang.Integer.bitCount",
        "java.lang.Math.min", "java.lang.Math.max");
    private static final Set<Tree.Kind> FORBIDDEN = Set.of(
        Tree.Kind.LAMBDA_EXPRESSION, Tree.Kind.MEMBER_REFERENCE, Tree.Kind.TRY, Tree.Kind.THROW, Tree.Kind.CATCH,
        Tree.Kind.ASSERT, Tree.Kind.SYNCHRONIZED, Tree.Kind.IMPORT, Tree.Kind.PACKAGE, Tree.Kind.INSTANCE_OF,
        Tree.Kind.DOUBLE_LITERAL, Tree.Kind.FLOAT_LITERAL, Tree.Kind.ANNOTATION, Tree.Kind.SWITCH_EXPRESSION,
        Tree.Kind.DO_WHILE_LOOP, Tree.Kind.ENHANCED_FOR_LOOP);

    private final Trees trees;
    private final CompilationUnitTree unit;
    private final SourcePositions positions;
    private final Set<String> face;
    private final Set<String> publicNames = new HashSet<>();
    private final Map<Element, Set<Element>> calls = new LinkedHashMap<>();
    private final Map<Element, Integer> depths = new HashMap<>();
    private final Set<String> publicFound = new TreeSet<>();
    private int classes = 0;
    private static int wrong = 0;

    private LanguageTest(Trees trees, CompilationUnitTree unit, Set<String> face) {
        this.trees = trees;
        this.unit = unit;
        this.positions = trees.getSourcePositions();
        this.face = face;
        for (String member : face) {
            Matcher name = Pattern.compile("(\\w+)\\(").matcher(member);
            if (name.find()) {
                publicNames.add(name.group(1));
            }
        }
    }

    public static void main(String[] args) throws Exception {
        Path source = Path.of(args.length > 0 ? args[0] : "src/main/java/CatWitness.java");
        JavaCompiler compiler = ToolProvider.getSystemJavaCompiler();
        try (StandardJavaFileManager files = compiler.getStandardFileManager(null, null, null)) {
            JavacTask task = (JavacTask) compiler.getTask(null, files, null, List.of("-proc:none"), null,
                files.getJavaFileObjects(source));
            List<CompilationUnitTree> units = new ArrayList<>();
            task.parse().forEach(units::add);
            task.analyze();
            LanguageTest test = new LanguageTest(Trees.instance(task), units.get(0), faceOf(Path.of("../shared/DOC.md")));
            test.scan(units, null);
            test.end();
        }
        String text = Files.readString(source);
        if (!text.chars().allMatch(c -> c < 128)) {
            System.out.println("a sign above 127");
            wrong++;
        }
        System.out.println(wrong == 0 ? "all as the language asks" : wrong + " faults");
        if (wrong != 0) {
            System.exit(1);
        }
    }

    /** The members that the document lists, without blanks, names of arguments, values. */
    private static Set<String> faceOf(Path document) throws java.io.IOException {
        String text = Files.readString(document);
        Matcher block = Pattern.compile("```java\n(.*?)```", Pattern.DOTALL).matcher(text);
        Set<String> face = new TreeSet<>();
        if (block.find()) {
            Matcher member = Pattern.compile("public (?!final class)(?:static final )?([^;{]*);").matcher(block.group(1));
            while (member.find()) {
                face.add(member.group(1).replaceAll(" = .*", "").replaceAll("(\\w+) \\w+(?=[,)])", "$1").replace(", ", ","));
            }
        }
        return face;
    }

    private void wrong(Tree at, String what) {
        wrong++;
        System.out.println("line " + lineOf(positions.getStartPosition(unit, at)) + ": " + what);
    }

    private long lineOf(long position) {
        return unit.getLineMap().getLineNumber(position);
    }

    @Override
    public Void scan(Tree tree, Void nothing) {
        if (tree != null && FORBIDDEN.contains(tree.getKind())) {
            wrong(tree, tree.getKind() + " is none of the language, or not used here");
        }
        return super.scan(tree, nothing);
    }

    @Override
    public Void visitClass(ClassTree tree, Void nothing) {
        classes++;
        Set<Modifier> modifiers = tree.getModifiers().getFlags();
        boolean outer = getCurrentPath().getParentPath().getLeaf() == unit;
        Set<Modifier> due = outer ? Set.of(Modifier.PUBLIC, Modifier.FINAL) : Set.of(Modifier.PRIVATE, Modifier.STATIC, Modifier.FINAL);
        if (!modifiers.equals(due)) {
            wrong(tree, tree.getSimpleName() + " is not " + due);
        }
        int fields = 0;
        for (Tree member : tree.getMembers()) {
            if (member instanceof BlockTree) {
                wrong(member, "a block of a class");
            }
            if (member instanceof VariableTree) {
                VariableTree field = (VariableTree) member;
                Set<Modifier> of = field.getModifiers().getFlags();
                if (of.contains(Modifier.STATIC) && !of.contains(Modifier.FINAL)) {
                    wrong(field, "a static field that is not final");
                }
                fields += of.contains(Modifier.STATIC) ? 0 : 1;
                seen(outer, of, field, field.getType() + " " + field.getName());
            }
            if (member instanceof MethodTree && positions.getEndPosition(unit, member) >= 0) {
                MethodTree method = (MethodTree) member;
                List<String> types = new ArrayList<>();
                method.getParameters().forEach(p -> types.add(p.getType().toString()));
                boolean makes = method.getReturnType() == null;
                String name = makes ? tree.getSimpleName().toString() : method.getReturnType() + " " + method.getName();
                seen(outer, method.getModifiers().getFlags(), method, name + "(" + String.join(",", types) + ")");
                boolean open = outer && method.getModifiers().getFlags().contains(Modifier.PUBLIC);
                if (!open && publicNames.contains(method.getName().toString())) {
                    wrong(method, method.getName() + " bears the name of a public method");
                }
            }
        }
        if (fields > 20) {
            wrong(tree, tree.getSimpleName() + " has " + fields + " fields");
        }
        return super.visitClass(tree, nothing);
    }

    private void seen(boolean outer, Set<Modifier> modifiers, Tree tree, String member) {
        if (!outer) {
            return;
        }
        if (modifiers.contains(Modifier.PUBLIC)) {
            publicFound.add(member);
        } else if (!modifiers.contains(Modifier.PRIVATE)) {
            wrong(tree, member + " is neither public nor private");
        }
    }

    @Override
    public Void visitMethod(MethodTree tree, Void nothing) {
        long start = positions.getStartPosition(unit, tree);
        long end = positions.getEndPosition(unit, tree);
        if (end >= 0 && lineOf(end) - lineOf(start) + 1 > 60) {
            wrong(tree, tree.getName() + " has more than 60 lines");
        }
        if (tree.getParameters().size() > 7) {
            wrong(tree, tree.getName() + " has more than 7 parameters");
        }
        calls.computeIfAbsent(trees.getElement(getCurrentPath()), key -> new HashSet<>());
        return super.visitMethod(tree, nothing);
    }

    private Tree methodAround() {
        for (TreePath path = getCurrentPath(); path != null; path = path.getParentPath()) {
            if (path.getLeaf() instanceof MethodTree) {
                return path.getLeaf();
            }
        }
        return null;
    }

    private boolean isInMaking() {
        MethodTree method = (MethodTree) methodAround();
        return method == null || method.getReturnType() == null;
    }

    @Override
    public Void visitMethodInvocation(MethodInvocationTree tree, Void nothing) {
        Element called = trees.getElement(getCurrentPath());
        MethodTree method = (MethodTree) methodAround();
        if (called instanceof ExecutableElement && method != null) {
            Element caller = trees.getElement(TreePath.getPath(unit, method));
            String owner = called.getEnclosingElement().toString();
            if (owner.startsWith("java.")) {
                boolean makesItself = called.getKind() == ElementKind.CONSTRUCTOR;
                if (!makesItself && !LIBRARY.contains(owner + "." + called.getSimpleName())) {
                    wrong(tree, owner + "." + called.getSimpleName() + " is no library of the language");
                }
            } else {
                calls.computeIfAbsent(caller, key -> new HashSet<>()).add(called);
            }
            if (caller.equals(called) && !(method.getModifiers().getFlags().containsAll(Set.of(Modifier.PRIVATE, Modifier.STATIC)))) {
                wrong(tree, "recursion in what is not private and static");
            }
        }
        return super.visitMethodInvocation(tree, nothing);
    }

    @Override
    public Void visitNewClass(NewClassTree tree, Void nothing) {
        if (!isInMaking() || tree.getClassBody() != null) {
            wrong(tree, "an object is made in a call");
        }
        return super.visitNewClass(tree, nothing);
    }

    @Override
    public Void visitNewArray(NewArrayTree tree, Void nothing) {
        if (!isInMaking()) {
            wrong(tree, "an array is made in a call");
        }
        return super.visitNewArray(tree, nothing);
    }

    @Override
    public Void visitBinary(BinaryTree tree, Void nothing) {
        boolean divides = tree.getKind() == Tree.Kind.DIVIDE || tree.getKind() == Tree.Kind.REMAINDER;
        if (divides && !isConstant(tree.getRightOperand())) {
            String method = ((MethodTree) methodAround()).getName().toString();
            // These look at their divisors.
            if (!Set.of("tellFraction", "commonDivisor", "draw").contains(method)) {
                wrong(tree, "a divisor that is no constant");
            }
        }
        if (tree.getKind() == Tree.Kind.PLUS && (isText(tree.getLeftOperand()) || isText(tree.getRightOperand()))) {
            wrong(tree, "texts joined by +");
        }
        return super.visitBinary(tree, nothing);
    }

    private static boolean isText(Tree tree) {
        return tree.getKind() == Tree.Kind.STRING_LITERAL;
    }

    /** A number, a constant, or these reckoned together; none of those here is 0. */
    private static boolean isConstant(Tree tree) {
        if (tree instanceof ParenthesizedTree) {
            return isConstant(((ParenthesizedTree) tree).getExpression());
        }
        if (tree instanceof BinaryTree) {
            return isConstant(((BinaryTree) tree).getLeftOperand()) && isConstant(((BinaryTree) tree).getRightOperand());
        }
        return tree instanceof LiteralTree || tree.toString().matches("(\\w+\\.)?[A-Z][A-Z_]+");
    }

    private void end() {
        if (classes > 12) {
            wrong(unit, classes + " classes");
        }
        Set<String> less = new TreeSet<>(face);
        less.removeAll(publicFound);
        Set<String> more = new TreeSet<>(publicFound);
        more.removeAll(face);
        if (face.size() < 60 || !less.isEmpty() || !more.isEmpty()) {
            wrong(unit, "the face lacks " + less + ", and has " + more + " above it");
        }
        for (Element method : calls.keySet()) {
            int depth = depthOf(method, new HashSet<>());
            if (depth > 8) {
                wrong(unit, method.getEnclosingElement() + "." + method + " goes " + depth + " deep: " + deepest(method));
            }
        }
    }

    /** How many calls stand open at the most, this one too, without those to itself. */
    private int depthOf(Element method, Set<Element> open) {
        Integer known = depths.get(method);
        if (known != null) {
            return known;
        }
        if (!open.add(method)) {
            wrong(unit, method + " comes to itself by others");
            return 0;
        }
        int most = 0;
        for (Element called : calls.getOrDefault(method, Set.of())) {
            if (!called.equals(method)) {
                most = Math.max(most, depthOf(called, open));
            }
        }
        open.remove(method);
        depths.put(method, most + 1);
        return most + 1;
    }

    private String deepest(Element method) {
        StringBuilder path = new StringBuilder(method.getSimpleName());
        Element at = method;
        for (int i = 0; i < 30; i++) {
            Element next = null;
            for (Element called : calls.getOrDefault(at, Set.of())) {
                boolean deeper = next == null || depths.getOrDefault(called, 0) > depths.getOrDefault(next, 0);
                next = deeper && !called.equals(at) ? called : next;
            }
            if (next == null) {
                break;
            }
            path.append(" > ").append(next.getSimpleName());
            at = next;
        }
        return path.toString();
    }
}
