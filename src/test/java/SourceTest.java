import com.sun.source.tree.*;
import com.sun.source.util.JavacTask;
import com.sun.source.util.TreePath;
import com.sun.source.util.TreePathScanner;
import com.sun.source.util.Trees;
import java.nio.file.Files;
import java.nio.file.Path;
import java.util.ArrayList;
import java.util.EnumSet;
import java.util.HashMap;
import java.util.List;
import java.util.Map;
import java.util.Set;
import java.util.TreeMap;
import java.util.TreeSet;
import javax.lang.model.element.Element;
import javax.lang.model.element.ElementKind;
import javax.lang.model.element.ExecutableElement;
import javax.lang.model.element.Modifier;
import javax.lang.model.element.TypeElement;
import javax.lang.model.type.TypeKind;
import javax.lang.model.type.TypeMirror;
import javax.tools.JavaCompiler;
import javax.tools.StandardJavaFileManager;
import javax.tools.ToolProvider;

/** The rules of LANGUAGE.md as the compiler's own tree of the source shows them. */
public final class SourceTest extends TreePathScanner<Void, Void> {
    private static final Path SOURCE = Path.of("src/main/java/SlotFleet.java");
    // Rule 4, as far as the class may want it: no name that ends in Exact, nothing that is not listed there.
    private static final Set<String> LIBRARY = Set.of("java.lang.String.length", "java.lang.String.charAt",
        "java.lang.String.isEmpty", "java.lang.String.equals", "java.lang.String.indexOf", "java.lang.String.substring",
        "java.lang.String.toCharArray", "java.lang.Integer.bitCount", "java.lang.Integer.compare", "java.lang.Integer.max",
        "java.lang.Integer.min", "java.lang.Math.abs", "java.lang.Math.max", "java.lang.Math.min", "java.lang.Math.floorDiv",
        "java.lang.Math.floorMod", "java.lang.System.arraycopy", "java.util.Arrays.fill", "java.util.Arrays.copyOf",
        "java.util.Arrays.copyOfRange");
    private static final Set<String> TYPES = Set.of("int", "long", "short", "byte", "char", "boolean", "void",
        "java.lang.String", "int[]", "long[]", "short[]", "byte[]", "char[]", "boolean[]", "int[][]");
    private static final Set<String> STATIC_TYPES =
        Set.of("int", "long", "boolean", "char", "java.lang.String", "int[]", "long[]", "char[]", "byte[]");
    private static final Set<Tree.Kind> NEVER = EnumSet.of(Tree.Kind.THROW, Tree.Kind.TRY, Tree.Kind.CATCH,
        Tree.Kind.SYNCHRONIZED, Tree.Kind.ASSERT, Tree.Kind.LAMBDA_EXPRESSION, Tree.Kind.MEMBER_REFERENCE, Tree.Kind.IMPORT,
        Tree.Kind.PACKAGE, Tree.Kind.ANNOTATION, Tree.Kind.BINDING_PATTERN, Tree.Kind.SWITCH_EXPRESSION);
    private static final Set<String> OBJECTS = Set.of("equals", "hashCode", "toString");
    private static final int MOST_PARAMETERS = 7;
    private static final int MOST_LINES = 60;
    private static final int MOST_DEEP = 8;
    private static final int MOST_CLASSES = 12;
    private static final int MOST_FIELDS = 20;

    private final Trees trees;
    private final CompilationUnitTree unit;
    private final Map<Element, Set<Element>> calls = new HashMap<>();
    private final Map<String, Integer> fields = new TreeMap<>();
    private final Map<Element, Integer> depths = new HashMap<>();
    private Element method;

    private SourceTest(Trees trees, CompilationUnitTree unit) {
        this.trees = trees;
        this.unit = unit;
    }

    public static void main(String[] args) throws Exception {
        JavaCompiler compiler = ToolProvider.getSystemJavaCompiler();
        try (StandardJavaFileManager files = compiler.getStandardFileManager(null, null, null)) {
            JavacTask task = (JavacTask) compiler.getTask(null, files, null, List.of("-proc:none"), null, files.getJavaFileObjects(SOURCE));
            CompilationUnitTree unit = task.parse().iterator().next();
            task.analyze();
            SourceTest test = new SourceTest(Trees.instance(task), unit);
            test.scan(unit, null);
            test.countFields();
            test.depthOfCalls();
        }
        faceOfTheDocument();
        Checks.finish();
    }

    private String at(Tree tree) {
        long place = trees.getSourcePositions().getStartPosition(unit, tree);
        return "line " + unit.getLineMap().getLineNumber(place);
    }

    private Element element(Tree tree) {
        return trees.getElement(TreePath.getPath(unit, tree));
    }

    @Override
    public Void scan(Tree tree, Void nothing) {
        if (tree != null) Checks.due(at(tree) + " has a " + tree.getKind(), NEVER.contains(tree.getKind()), false);
        return super.scan(tree, nothing);
    }

    @Override
    public Void visitClass(ClassTree tree, Void nothing) {
        Element e = element(tree);
        Set<Modifier> m = e.getModifiers();
        boolean outer = e.getSimpleName().contentEquals("SlotFleet");
        Checks.due(e + " is public and final, or inside and static", m.contains(outer ? Modifier.PUBLIC : Modifier.STATIC)
            && (outer ? m.contains(Modifier.FINAL) : !m.contains(Modifier.PUBLIC) && !m.contains(Modifier.PROTECTED)), true);
        for (Tree member : tree.getMembers()) Checks.due(at(member) + " has a block of its own", member.getKind() == Tree.Kind.BLOCK, false);
        fields.put(e.toString(), 0);
        return super.visitClass(tree, nothing);
    }

    @Override
    public Void visitMethod(MethodTree tree, Void nothing) {
        method = element(tree);
        calls.putIfAbsent(method, new java.util.HashSet<>());
        Checks.due(method + " takes at most seven", tree.getParameters().size() <= MOST_PARAMETERS, true);
        boolean outer = method.getEnclosingElement().getSimpleName().contentEquals("SlotFleet");
        String name = method.getSimpleName().toString();
        if (outer) Checks.due(method + " is private, or of the face", method.getModifiers().contains(Modifier.PRIVATE) != isFace(name), true);
        else Checks.due(method + " inside bears another name", isFace(name) && !name.equals("<init>") || OBJECTS.contains(name), false);
        if (tree.getBody() != null) {
            LineMap lines = unit.getLineMap();
            long from = lines.getLineNumber(trees.getSourcePositions().getStartPosition(unit, tree));
            long to = lines.getLineNumber(trees.getSourcePositions().getEndPosition(unit, tree));
            Checks.due(method + " is short", to - from < MOST_LINES, true);
        }
        super.visitMethod(tree, nothing);
        method = null;
        return null;
    }

    private static boolean isFace(String name) {
        if (name.equals("<init>")) return true;
        for (java.lang.reflect.Method m : SlotFleet.class.getMethods()) {
            if (m.getDeclaringClass() == SlotFleet.class && m.getName().equals(name)) return true;
        }
        return false;
    }

    @Override
    public Void visitTypeCast(TypeCastTree tree, Void nothing) {
        Checks.due(at(tree) + " casts to a number", tree.getType().getKind() == Tree.Kind.PRIMITIVE_TYPE, true);
        return super.visitTypeCast(tree, nothing);
    }

    @Override
    public Void visitBinary(BinaryTree tree, Void nothing) {
        for (Tree side : List.of(tree.getLeftOperand(), tree.getRightOperand())) {
            String type = trees.getTypeMirror(TreePath.getPath(unit, side)).toString();
            Checks.due(at(tree) + " joins or compares a " + type, type.startsWith("java."), false);
        }
        return super.visitBinary(tree, nothing);
    }

    @Override
    public Void visitVariable(VariableTree tree, Void nothing) {
        Element e = element(tree);
        String type = e.asType().toString();
        Checks.due(at(tree) + " has the type " + type, TYPES.contains(type) || isOwn(e.asType()), true);
        if (e.getKind() == ElementKind.FIELD) visitField(e, type);
        return super.visitVariable(tree, nothing);
    }

    private void visitField(Element e, String type) {
        boolean outer = e.getEnclosingElement().getSimpleName().contentEquals("SlotFleet");
        boolean told = e.getSimpleName().contentEquals("NONE");
        if (outer) Checks.due(e + " is private, or NONE", told != e.getModifiers().contains(Modifier.PRIVATE), true);
        if (!e.getModifiers().contains(Modifier.STATIC)) {
            fields.merge(e.getEnclosingElement().toString(), 1, Integer::sum);
            return;
        }
        Checks.due(e + " is final", e.getModifiers().contains(Modifier.FINAL), true);
        Checks.due(e + " is a constant of type " + type, STATIC_TYPES.contains(type), true);
    }

    /** A class of the file's own, or a row of such. */
    private static boolean isOwn(TypeMirror type) {
        String name = type.toString();
        boolean array = type.getKind() == TypeKind.ARRAY;
        return name.matches("SlotFleet\\.[A-Za-z]+" + (array ? "\\[\\]" : ""));
    }

    @Override
    public Void visitMethodInvocation(MethodInvocationTree tree, Void nothing) {
        Element called = element(tree.getMethodSelect());
        TypeElement owner = (TypeElement) called.getEnclosingElement();
        String name = owner.getQualifiedName().toString();
        if (name.startsWith("SlotFleet")) {
            if (method != null) calls.get(method).add(called);
        } else if (called.getKind() == ElementKind.METHOD) {
            Checks.due(at(tree) + " calls " + name + "." + called.getSimpleName(), LIBRARY.contains(name + "." + called.getSimpleName()), true);
        }
        return super.visitMethodInvocation(tree, nothing);
    }

    @Override
    public Void visitNewClass(NewClassTree tree, Void nothing) {
        Element called = element(tree);
        Checks.due(at(tree) + " has a class without a name", tree.getClassBody() == null, true);
        Checks.due(at(tree) + " makes a " + called.getEnclosingElement(), called.getEnclosingElement().toString().startsWith("SlotFleet."), true);
        if (method != null) calls.get(method).add(called);
        return super.visitNewClass(tree, nothing);
    }

    private void countFields() {
        Checks.due(fields.size() + " classes", fields.size() <= MOST_CLASSES, true);
        fields.forEach((name, count) -> Checks.due(name + " has " + count + " fields", count <= MOST_FIELDS, true));
    }

    /** Rule 11: those that call one another in a round are recursion and count once. */
    private void depthOfCalls() {
        for (Element e : calls.keySet()) {
            int deep = depth(e, new ArrayList<>());
            boolean face = e.getModifiers().contains(Modifier.PUBLIC);
            if (face) Checks.due(e + " goes " + deep + " deep", deep <= MOST_DEEP, true);
        }
        Set<String> round = new TreeSet<>();
        for (Element e : calls.keySet()) if (reached(e).contains(e)) round.add(e.getSimpleName().toString());
        Checks.same("methods that call one another", round.toString(), "[readLevel, readUnit]");
    }

    private Set<Element> reached(Element from) {
        Set<Element> all = new java.util.HashSet<>();
        List<Element> open = new ArrayList<>(calls.getOrDefault(from, Set.of()));
        while (!open.isEmpty()) {
            Element e = open.remove(open.size() - 1);
            if (all.add(e)) open.addAll(calls.getOrDefault(e, Set.of()));
        }
        return all;
    }

    private int depth(Element e, List<Element> above) {
        if (above.contains(e)) return 0;
        Integer known = depths.get(e);
        if (known != null) return known;
        above.add(e);
        int deepest = 0;
        for (Element called : calls.getOrDefault(e, Set.of())) deepest = Math.max(deepest, depth(called, above));
        above.remove(above.size() - 1);
        if (!reached(e).contains(e)) depths.put(e, deepest + 1);
        return deepest + 1;
    }

    /** The document's face, sign by sign: what it promises is there, and nothing else that is public. */
    private static void faceOfTheDocument() throws Exception {
        Path document = Path.of("../shared/DOC.md");
        if (!Files.exists(document)) return;
        Set<String> told = new TreeSet<>();
        boolean within = false;
        for (String line : Files.readAllLines(document)) {
            if (line.startsWith("public final class")) within = true;
            else if (within && line.equals("}")) break;
            else if (within) told.add(line.strip().replaceAll(" (\\w+)(?=[,)])", ""));
        }
        Set<String> face = new TreeSet<>();
        for (java.lang.reflect.Method m : SlotFleet.class.getDeclaredMethods()) {
            if (java.lang.reflect.Modifier.isPublic(m.getModifiers())) face.add("public " + m.getReturnType() + " " + m.getName() + types(m) + ";");
        }
        for (java.lang.reflect.Constructor<?> c : SlotFleet.class.getDeclaredConstructors()) {
            if (java.lang.reflect.Modifier.isPublic(c.getModifiers())) face.add("public " + c.getName() + types(c) + ";");
        }
        for (java.lang.reflect.Field f : SlotFleet.class.getFields()) {
            face.add(java.lang.reflect.Modifier.toString(f.getModifiers()) + " " + f.getType() + " " + f.getName() + " = " + f.get(null) + ";");
        }
        Checks.same("the public face", face.toString(), told.toString());
        Checks.due("calls of the face", face.size(), 50);
    }

    private static String types(java.lang.reflect.Executable e) {
        List<String> names = new ArrayList<>();
        for (Class<?> type : e.getParameterTypes()) names.add(type.getName());
        return "(" + String.join(", ", names) + ")";
    }
}
