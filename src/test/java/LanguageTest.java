import com.sun.source.tree.AssertTree;
import com.sun.source.tree.AssignmentTree;
import com.sun.source.tree.BinaryTree;
import com.sun.source.tree.ClassTree;
import com.sun.source.tree.CompilationUnitTree;
import com.sun.source.tree.ExpressionTree;
import com.sun.source.tree.ForLoopTree;
import com.sun.source.tree.IdentifierTree;
import com.sun.source.tree.ImportTree;
import com.sun.source.tree.LambdaExpressionTree;
import com.sun.source.tree.LiteralTree;
import com.sun.source.tree.MemberReferenceTree;
import com.sun.source.tree.MemberSelectTree;
import com.sun.source.tree.MethodInvocationTree;
import com.sun.source.tree.MethodTree;
import com.sun.source.tree.NewClassTree;
import com.sun.source.tree.SwitchExpressionTree;
import com.sun.source.tree.SynchronizedTree;
import com.sun.source.tree.ThrowTree;
import com.sun.source.tree.Tree;
import com.sun.source.tree.TryTree;
import com.sun.source.tree.TypeCastTree;
import com.sun.source.tree.VariableTree;
import com.sun.source.util.JavacTask;
import com.sun.source.util.TreePath;
import com.sun.source.util.TreePathScanner;
import com.sun.source.util.Trees;
import java.nio.charset.StandardCharsets;
import java.nio.file.Files;
import java.nio.file.Path;
import java.util.ArrayList;
import java.util.LinkedHashMap;
import java.util.LinkedHashSet;
import java.util.List;
import java.util.Map;
import java.util.Set;
import javax.lang.model.element.Element;
import javax.lang.model.element.ElementKind;
import javax.lang.model.element.ExecutableElement;
import javax.lang.model.element.Modifier;
import javax.lang.model.element.VariableElement;
import javax.lang.model.type.ArrayType;
import javax.lang.model.type.DeclaredType;
import javax.lang.model.type.TypeKind;
import javax.lang.model.type.TypeMirror;
import javax.tools.JavaCompiler;
import javax.tools.StandardJavaFileManager;
import javax.tools.ToolProvider;

/** What of LANGUAGE.md can be read off the program's syntax tree, rule by rule; the argument: its source. */
public final class LanguageTest extends TreePathScanner<Void, Void> {
    private static final Map<String, List<String>> LIBRARY = Map.of(
        "java.lang.String", List.of("length", "charAt", "isEmpty", "equals", "indexOf", "substring", "toCharArray"),
        "java.lang.StringBuilder",
        List.of("append", "charAt", "setCharAt", "setLength", "deleteCharAt", "reverse", "length", "toString"),
        "java.util.ArrayList", List.of("add", "get", "set", "remove", "size", "isEmpty", "clear"),
        "java.util.List", List.of("add", "get", "set", "remove", "size", "isEmpty", "clear", "of"),
        "java.lang.System", List.of("arraycopy"),
        "java.util.Arrays", List.of("copyOf", "copyOfRange", "fill"));
    private static final Set<String> OVER_NUMBERS = Set.of("java.lang.Math", "java.lang.Integer", "java.lang.Long");
    private static final Set<String> IMPORTS =
        Set.of("java.util.Arrays", "java.util.ArrayList", "java.util.List", "java.util.Iterator");
    // Divisors that are no literal: v is 0 or more, a PACE 1 or more, and the loop over d ends above 1.
    private static final Set<String> DIVISORS_LOOKED_AT = Set.of("(v + 2)", "Glider.sinkOfMile(pace)", "d");
    private static final int MOST_LINES = 60, MOST_PARAMETERS = 7, MOST_DEEP = 8, MOST_CLASSES = 12, MOST_FIELDS = 20;

    private final Trees trees;
    private final CompilationUnitTree unit;
    private final Map<String, Set<String>> calls = new LinkedHashMap<>();
    private int classes = 0;
    private int wrong = 0;

    private LanguageTest(Trees trees, CompilationUnitTree unit) {
        this.trees = trees;
        this.unit = unit;
    }

    private void due(boolean so, int rule, String what, Tree where) {
        if (!so) {
            wrong++;
            long at = where == null ? 0 : trees.getSourcePositions().getStartPosition(unit, where);
            System.out.println("rule " + rule + ", line " + unit.getLineMap().getLineNumber(Math.max(at, 0)) + ": " + what);
        }
    }

    private Element elementOf(Tree tree) {
        return trees.getElement(new TreePath(getCurrentPath(), tree));
    }

    private TypeMirror typeOf(Tree tree) {
        return trees.getTypeMirror(new TreePath(getCurrentPath(), tree));
    }

    private static String ownerOf(Element it) {
        return it.getEnclosingElement() == null ? "" : it.getEnclosingElement().toString();
    }

    private static boolean isOwn(String type) {
        return type.equals("SomebodysLift") || type.startsWith("SomebodysLift.");
    }

    /** The method around the place that is looked at. */
    private String around() {
        for (TreePath at = getCurrentPath(); at != null; at = at.getParentPath()) {
            if (at.getLeaf() instanceof MethodTree) {
                Element it = trees.getElement(at);
                return ownerOf(it) + "." + it;
            }
        }
        return "";
    }

    // ---- rules 1, 2, 11: classes and methods

    @Override public Void visitClass(ClassTree node, Void none) {
        classes++;
        Element it = trees.getElement(getCurrentPath());
        boolean outermost = it.toString().equals("SomebodysLift");
        int fields = 0;
        for (Tree member : node.getMembers()) {
            due(member.getKind() != Tree.Kind.BLOCK, 5, "no initialiser block", member);
            fields += member instanceof VariableTree
                && !((VariableTree) member).getModifiers().getFlags().contains(Modifier.STATIC) ? 1 : 0;
        }
        due(fields <= MOST_FIELDS, 11, "some twenty fields: " + it, node);
        due(node.getModifiers().getFlags().contains(Modifier.FINAL), 1, "final: " + it, node);
        if (!outermost) {
            due(it.getEnclosingElement().getKind().isClass(), 2, "no local, no anonymous class", node);
            due(node.getModifiers().getFlags().contains(Modifier.STATIC), 2, "static: " + it, node);
        }
        return super.visitClass(node, none);
    }

    @Override public Void visitMethod(MethodTree node, Void none) {
        long first = unit.getLineMap().getLineNumber(trees.getSourcePositions().getStartPosition(unit, node));
        long last = unit.getLineMap().getLineNumber(trees.getSourcePositions().getEndPosition(unit, node));
        due(last - first < MOST_LINES, 11, "no long method: " + node.getName(), node);
        due(node.getParameters().size() <= MOST_PARAMETERS, 11, "at most seven parameters: " + node.getName(), node);
        String name = node.getName().toString();
        due(!List.of("equals", "hashCode", "toString", "finalize").contains(name), 6, "no " + name, node);
        calls.computeIfAbsent(around(), key -> new LinkedHashSet<>());
        return super.visitMethod(node, none);
    }

    // ---- rules 3 and 5: types and fields

    private boolean isNumber(TypeMirror type) {
        return type.getKind().isPrimitive() && type.getKind() != TypeKind.BOOLEAN;
    }

    private static boolean isText(TypeMirror type) {
        return type instanceof DeclaredType && ((DeclaredType) type).asElement().toString().equals("java.lang.String");
    }

    private boolean isType(TypeMirror type) {
        if (type.getKind() != TypeKind.ARRAY) {
            String name = type.toString();
            return type.getKind().isPrimitive() || isOwn(name) || isText(type)
                || name.equals("java.lang.StringBuilder")
                || name.matches("java\\.util\\.(Array)?List<(java\\.lang\\.Integer|SomebodysLift\\..*)>");
        }
        TypeMirror item = ((ArrayType) type).getComponentType();
        if (item.getKind() == TypeKind.ARRAY) {
            return isNumber(((ArrayType) item).getComponentType());
        }
        return item.getKind().isPrimitive() || isOwn(item.toString());
    }

    @Override public Void visitVariable(VariableTree node, Void none) {
        TypeMirror type = trees.getTypeMirror(getCurrentPath());
        due(isType(type), 3, "no such type: " + type, node);
        Element it = trees.getElement(getCurrentPath());
        if (it.getKind() == ElementKind.FIELD && it.getModifiers().contains(Modifier.STATIC)) {
            due(it.getModifiers().contains(Modifier.FINAL), 5, "static fields are final: " + it, node);
            boolean isConstant = ((VariableElement) it).getConstantValue() != null;
            due(isConstant || node.getInitializer().getKind() == Tree.Kind.NEW_ARRAY, 5, "a constant: " + it, node);
        }
        return super.visitVariable(node, none);
    }

    @Override public Void visitAssignment(AssignmentTree node, Void none) {
        if (node.getVariable().getKind() == Tree.Kind.ARRAY_ACCESS) {
            String row = node.getVariable().toString();
            due(!row.matches("[A-Z_]+\\[.*"), 5, "a constant row is never changed: " + row, node);
        }
        return super.visitAssignment(node, none);
    }

    // ---- rule 4: the library

    private void fromLibrary(ExecutableElement it, MethodInvocationTree node) {
        String owner = ownerOf(it);
        String name = it.getSimpleName().toString();
        if (OVER_NUMBERS.contains(owner)) {
            boolean so = it.getModifiers().contains(Modifier.STATIC) && !name.endsWith("Exact");
            for (VariableElement parameter : it.getParameters()) {
                so &= parameter.asType().getKind() == TypeKind.INT || parameter.asType().getKind() == TypeKind.LONG;
            }
            due(so, 4, "no such function: " + owner + "." + it, node);
            return;
        }
        due(LIBRARY.getOrDefault(owner, List.of()).contains(name), 4, "not there: " + owner + "." + it, node);
        if (name.equals("indexOf")) {
            due(typeOf(node.getArguments().get(0)).getKind() == TypeKind.CHAR, 4, "indexOf of a char", node);
        }
        if (name.equals("append")) {
            TypeMirror type = typeOf(node.getArguments().get(0));
            boolean so = type.getKind() == TypeKind.CHAR || type.getKind() == TypeKind.INT || isText(type);
            due(so, 4, "append of a char, an int, a String", node);
        }
        if (owner.equals("java.util.Arrays")) {
            TypeMirror type = typeOf(node.getArguments().get(0));
            due(isNumber(((ArrayType) type).getComponentType()), 4, "Arrays over numbers", node);
        }
    }

    @Override public Void visitMethodInvocation(MethodInvocationTree node, Void none) {
        ExecutableElement it = (ExecutableElement) elementOf(node.getMethodSelect());
        if (isOwn(ownerOf(it))) {
            calls.computeIfAbsent(around(), key -> new LinkedHashSet<>()).add(ownerOf(it) + "." + it);
        } else if (!node.toString().equals("super()")) {
            fromLibrary(it, node);
        }
        return super.visitMethodInvocation(node, none);
    }

    @Override public Void visitNewClass(NewClassTree node, Void none) {
        due(node.getClassBody() == null, 2, "no anonymous class", node);
        String type = typeOf(node.getIdentifier()).toString();
        due(isOwn(type) || type.matches("java\\.(lang\\.StringBuilder|lang\\.String|util\\.ArrayList.*)"), 4,
            "not there: new " + type, node);
        return super.visitNewClass(node, none);
    }

    @Override public Void visitMemberSelect(MemberSelectTree node, Void none) {
        Element it = trees.getElement(getCurrentPath());
        if (it != null && it.getKind() == ElementKind.FIELD && !isOwn(ownerOf(it))) {
            boolean ofAnArray = typeOf(node.getExpression()).getKind() == TypeKind.ARRAY;
            // The document's own face has this one.
            boolean isFace = node.toString().equals("Long.MIN_VALUE")
                && getCurrentPath().getParentPath().getLeaf().toString().startsWith("public static final long NO");
            due(ofAnArray || isFace, 4, "not there: " + node, node);
        }
        return super.visitMemberSelect(node, none);
    }

    @Override public Void visitIdentifier(IdentifierTree node, Void none) {
        Element it = trees.getElement(getCurrentPath());
        boolean isField = it != null && it.getKind() == ElementKind.FIELD;
        due(!isField || isOwn(ownerOf(it)) || isOwn(ownerOf(it.getEnclosingElement())), 4, "not there: " + node, node);
        return super.visitIdentifier(node, none);
    }

    @Override public Void visitImport(ImportTree node, Void none) {
        due(!node.isStatic() && IMPORTS.contains(node.getQualifiedIdentifier().toString()), 4, "no " + node, node);
        return null;
    }

    @Override public Void visitLiteral(LiteralTree node, Void none) {
        if (node.getValue() instanceof String) {
            for (char sign : ((String) node.getValue()).toCharArray()) {
                due(sign >= 1 && sign <= 127, 4, "signs are 1 to 127", node);
            }
        }
        return super.visitLiteral(node, none);
    }

    // ---- rules 6 to 10: statements and signs

    @Override public Void visitThrow(ThrowTree node, Void none) {
        due(false, 6, "no throw", node);
        return null;
    }

    @Override public Void visitTry(TryTree node, Void none) {
        due(false, 6, "no try", node);
        return null;
    }

    @Override public Void visitSynchronized(SynchronizedTree node, Void none) {
        due(false, 6, "no synchronized", node);
        return null;
    }

    @Override public Void visitAssert(AssertTree node, Void none) {
        due(false, 6, "no assert", node);
        return null;
    }

    @Override public Void visitLambdaExpression(LambdaExpressionTree node, Void none) {
        due(false, 2, "no lambda", node);
        return null;
    }

    @Override public Void visitMemberReference(MemberReferenceTree node, Void none) {
        due(false, 2, "no method reference", node);
        return null;
    }

    @Override public Void visitSwitchExpression(SwitchExpressionTree node, Void none) {
        due(false, 10, "no switch that answers", node);
        return null;
    }

    @Override public Void visitForLoop(ForLoopTree node, Void none) {
        due(node.getCondition() != null && node.getCondition().toString().contains("<")
            || node.getCondition() != null && node.getCondition().toString().contains(">"), 9, "a bound", node);
        return super.visitForLoop(node, none);
    }

    @Override public Void visitTypeCast(TypeCastTree node, Void none) {
        due(typeOf(node.getType()).getKind().isPrimitive(), 6, "casts of numbers alone: " + node, node);
        return super.visitTypeCast(node, none);
    }

    @Override public Void visitBinary(BinaryTree node, Void none) {
        due(!isText(typeOf(node.getLeftOperand())) && !isText(typeOf(node.getRightOperand())), 6,
            "no texts by signs: " + node, node);
        if (node.getKind() == Tree.Kind.DIVIDE || node.getKind() == Tree.Kind.REMAINDER) {
            ExpressionTree divisor = node.getRightOperand();
            boolean isLiteral = divisor instanceof LiteralTree && !divisor.toString().equals("0");
            due(isLiteral || DIVISORS_LOOKED_AT.contains(divisor.toString()), 7, "a divisor: " + divisor, node);
        }
        return super.visitBinary(node, none);
    }

    // ---- rules 8 and 11: how deep calls go

    private boolean leadsTo(String from, String to, Set<String> seen) {
        for (String next : calls.getOrDefault(from, Set.of())) {
            if (next.equals(to) || seen.add(next) && leadsTo(next, to, seen)) {
                return true;
            }
        }
        return false;
    }

    /** The longest row of calls, each method once, so that one in a recursion counts like any other. */
    private List<String> deepest(String from, List<String> open) {
        List<String> here = new ArrayList<>(open);
        here.add(from);
        List<String> longest = here;
        for (String next : calls.getOrDefault(from, Set.of())) {
            if (!here.contains(next)) {
                List<String> found = deepest(next, here);
                longest = found.size() > longest.size() ? found : longest;
            }
        }
        return longest;
    }

    private void depths() {
        Set<String> recursive = new LinkedHashSet<>();
        for (String method : calls.keySet()) {
            List<String> row = deepest(method, List.of());
            due(row.size() <= MOST_DEEP, 11, "calls go eight deep: " + row, null);
            if (leadsTo(method, method, new LinkedHashSet<>())) {
                recursive.add(method.replaceAll(".*\\.(\\w+)\\(.*", "$1"));
            }
        }
        // Each carries how deep it stands, or a KIND that is one further above each time.
        due(recursive.equals(Set.of("turns", "climbs", "tells", "expression", "factor")), 8, "recursion: " + recursive, null);
        due(calls.size() > 80, 11, "methods were found", null);
        due(classes <= MOST_CLASSES, 11, "some twelve classes: " + classes, null);
    }

    public static void main(String[] args) throws Exception {
        byte[] source = Files.readAllBytes(Path.of(args[0]));
        JavaCompiler compiler = ToolProvider.getSystemJavaCompiler();
        StandardJavaFileManager files = compiler.getStandardFileManager(null, null, StandardCharsets.ISO_8859_1);
        JavacTask task = (JavacTask) compiler.getTask(null, files, null, List.of("-proc:none"), null,
            files.getJavaFileObjects(Path.of(args[0])));
        CompilationUnitTree unit = task.parse().iterator().next();
        task.analyze();
        LanguageTest it = new LanguageTest(Trees.instance(task), unit);
        it.due(unit.getPackageName() == null, 1, "no package", null);
        it.due(unit.getTypeDecls().size() == 1, 2, "one class with all others inside", null);
        for (byte sign : source) {
            it.due(sign >= 1, 4, "signs are 1 to 127", null);
        }
        it.scan(unit, null);
        it.depths();
        System.out.println(it.wrong == 0 ? "the language is kept to" : it.wrong + " places are not in the language");
        if (it.wrong != 0) {
            System.exit(1);
        }
    }
}
