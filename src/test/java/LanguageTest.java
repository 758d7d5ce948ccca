import com.sun.source.tree.BinaryTree;
import com.sun.source.tree.ClassTree;
import com.sun.source.tree.CompilationUnitTree;
import com.sun.source.tree.ForLoopTree;
import com.sun.source.tree.ImportTree;
import com.sun.source.tree.MethodInvocationTree;
import com.sun.source.tree.MethodTree;
import com.sun.source.tree.NewArrayTree;
import com.sun.source.tree.NewClassTree;
import com.sun.source.tree.Tree;
import com.sun.source.tree.TypeCastTree;
import com.sun.source.tree.VariableTree;
import com.sun.source.util.JavacTask;
import com.sun.source.util.TreePath;
import com.sun.source.util.TreePathScanner;
import com.sun.source.util.Trees;
import java.io.IOException;
import java.nio.file.Files;
import java.nio.file.Path;
import java.util.ArrayList;
import java.util.HashSet;
import java.util.LinkedHashMap;
import java.util.LinkedHashSet;
import java.util.List;
import java.util.Map;
import java.util.Set;
import java.util.TreeSet;
import javax.lang.model.element.Element;
import javax.lang.model.element.ElementKind;
import javax.lang.model.element.ExecutableElement;
import javax.lang.model.element.Modifier;
import javax.lang.model.type.TypeMirror;
import javax.tools.JavaCompiler;
import javax.tools.StandardJavaFileManager;
import javax.tools.ToolProvider;

/**
 * LANGUAGE.md's rules, as far as they can be seen in the source: it is read by the compiler, and what
 * is not on the lists here is told with its line and the rule's number.
 */
public final class LanguageTest extends TreePathScanner<Void, Void> {
    private static final int DEEPEST = 8;
    private static final Set<String> WORDS = Set.of("COMPILATION_UNIT", "IMPORT", "CLASS", "METHOD", "VARIABLE", "MODIFIERS",
        "PRIMITIVE_TYPE", "ARRAY_TYPE", "IDENTIFIER", "MEMBER_SELECT", "BLOCK", "EXPRESSION_STATEMENT", "IF", "FOR_LOOP",
        "ENHANCED_FOR_LOOP", "WHILE_LOOP", "DO_WHILE_LOOP", "SWITCH", "CASE", "BREAK", "CONTINUE", "RETURN", "ASSIGNMENT",
        "CONDITIONAL_EXPRESSION", "PARENTHESIZED", "METHOD_INVOCATION", "NEW_CLASS", "NEW_ARRAY", "ARRAY_ACCESS", "TYPE_CAST",
        "INT_LITERAL", "LONG_LITERAL", "BOOLEAN_LITERAL", "CHAR_LITERAL", "STRING_LITERAL", "NULL_LITERAL",
        "POSTFIX_INCREMENT", "POSTFIX_DECREMENT", "UNARY_MINUS", "BITWISE_COMPLEMENT", "LOGICAL_COMPLEMENT",
        "MULTIPLY", "DIVIDE", "REMAINDER", "PLUS", "MINUS", "LEFT_SHIFT", "RIGHT_SHIFT", "AND", "OR", "XOR",
        "LESS_THAN", "LESS_THAN_EQUAL", "GREATER_THAN", "GREATER_THAN_EQUAL", "EQUAL_TO", "NOT_EQUAL_TO",
        "CONDITIONAL_AND", "CONDITIONAL_OR", "MULTIPLY_ASSIGNMENT", "PLUS_ASSIGNMENT", "MINUS_ASSIGNMENT",
        "AND_ASSIGNMENT", "OR_ASSIGNMENT");
    private static final Set<String> LIBRARY = Set.of("Integer.bitCount", "Long.bitCount", "Math.abs", "Math.floorDiv", "Math.floorMod",
        "Math.max", "Math.min", "String.charAt", "String.indexOf", "String.length", "System.arraycopy", "Arrays.fill", "Arrays.copyOf",
        "Arrays.copyOfRange", "Object.<init>");
    private static final String TYPES = "(int|long|short|byte|char|boolean)(\\[\\]){0,2}|String|DrawingHouse\\.\\w+(\\[\\])?";
    private static final String STATIC_TYPES = "int|long|boolean|char|String|(int|long|char|byte)\\[\\]";

    private final Trees trees;
    private final CompilationUnitTree unit;
    private final Map<ExecutableElement, Set<ExecutableElement>> calls = new LinkedHashMap<>();
    private ExecutableElement method = null;
    private int classes = 0;
    private int loops = 0;

    private LanguageTest(Trees trees, CompilationUnitTree unit) {
        this.trees = trees;
        this.unit = unit;
    }

    public static void main(String[] args) throws IOException {
        Path root = Path.of(args.length > 0 ? args[0] : ".").toAbsolutePath();
        JavaCompiler compiler = ToolProvider.getSystemJavaCompiler();
        StandardJavaFileManager files = compiler.getStandardFileManager(null, null, null);
        JavacTask task = (JavacTask) compiler.getTask(null, files, null, List.of("-proc:none"), null,
                files.getJavaFileObjects(root.resolve("src/main/java/DrawingHouse.java")));
        CompilationUnitTree unit = task.parse().iterator().next();
        task.analyze();
        LanguageTest test = new LanguageTest(Trees.instance(task), unit);
        test.scan(unit, null);
        test.face(Files.readString(root.resolve("../shared/DOC.md")));
        test.callsAreShallow();
        Check.due("rule 11: classes", test.classes <= 13, true);
        Check.due("no package", unit.getPackageName() == null, true);
        Check.end();
    }

    private void rule(int number, String what, Tree where, boolean kept) {
        long line = unit.getLineMap().getLineNumber(trees.getSourcePositions().getStartPosition(unit, where));
        Check.due("rule " + number + ", line " + line + ": " + what, kept, true);
    }

    private static String plain(TypeMirror type) {
        return type.toString().replace("java.lang.", "");
    }

    private static boolean isFree(Set<Modifier> modifiers) {
        return !modifiers.contains(Modifier.PUBLIC) && !modifiers.contains(Modifier.PROTECTED);
    }

    @Override
    public Void scan(Tree tree, Void nothing) {
        if (tree != null) {
            rule(6, tree.getKind().toString(), tree, WORDS.contains(tree.getKind().toString()));
        }
        return super.scan(tree, nothing);
    }

    @Override
    public Void visitImport(ImportTree tree, Void nothing) {
        rule(4, tree.toString().trim(), tree, tree.getQualifiedIdentifier().toString().equals("java.util.Arrays"));
        return super.visitImport(tree, nothing);
    }

    @Override
    public Void visitClass(ClassTree tree, Void nothing) {
        classes++;
        Set<Modifier> modifiers = tree.getModifiers().getFlags();
        boolean outer = getCurrentPath().getParentPath().getLeaf() == unit;
        if (outer) {
            rule(1, "public and final", tree, modifiers.equals(Set.of(Modifier.PUBLIC, Modifier.FINAL)));
        } else {
            rule(1, "a free class inside", tree, isFree(modifiers));
            rule(2, "a static class inside", tree, modifiers.contains(Modifier.STATIC));
        }
        int fields = 0;
        for (Tree member : tree.getMembers()) {
            rule(5, "a block", member, member.getKind() != Tree.Kind.BLOCK);
            if (member instanceof VariableTree field && !field.getModifiers().getFlags().contains(Modifier.STATIC)) {
                fields++;
                rule(1, "a private field", field, !outer || field.getModifiers().getFlags().contains(Modifier.PRIVATE));
            }
        }
        rule(11, fields + " fields", tree, fields <= 21);
        return super.visitClass(tree, nothing);
    }

    @Override
    public Void visitMethod(MethodTree tree, Void nothing) {
        long start = trees.getSourcePositions().getStartPosition(unit, tree);
        long end = trees.getSourcePositions().getEndPosition(unit, tree);
        long lines = unit.getLineMap().getLineNumber(end) - unit.getLineMap().getLineNumber(start);
        rule(11, "a short method", tree, lines < 60);
        rule(11, "parameters", tree, tree.getParameters().size() <= 7);
        ExecutableElement outside = method;
        method = (ExecutableElement) trees.getElement(getCurrentPath());
        calls.putIfAbsent(method, new LinkedHashSet<>());
        super.visitMethod(tree, nothing);
        method = outside;
        return null;
    }

    @Override
    public Void visitVariable(VariableTree tree, Void nothing) {
        Element variable = trees.getElement(getCurrentPath());
        String type = plain(variable.asType());
        rule(3, type, tree, type.matches(TYPES));
        if (variable.getKind() == ElementKind.FIELD && variable.getModifiers().contains(Modifier.STATIC)) {
            rule(5, "a constant", tree, variable.getModifiers().contains(Modifier.FINAL) && type.matches(STATIC_TYPES));
        }
        return super.visitVariable(tree, nothing);
    }

    @Override
    public Void visitMethodInvocation(MethodInvocationTree tree, Void nothing) {
        Element called = trees.getElement(new TreePath(getCurrentPath(), tree.getMethodSelect()));
        String owner = called.getEnclosingElement().toString();
        if (owner.startsWith("DrawingHouse")) {
            if (method != null) {
                calls.get(method).add((ExecutableElement) called);
            }
        } else {
            String name = owner.substring(owner.lastIndexOf('.') + 1) + "." + called.getSimpleName();
            rule(4, name, tree, LIBRARY.contains(name));
            rule(4, name + " over numbers", tree, !name.startsWith("Arrays") || !called.toString().contains("boolean"));
        }
        return super.visitMethodInvocation(tree, nothing);
    }

    @Override
    public Void visitNewClass(NewClassTree tree, Void nothing) {
        rule(2, "a class without a name", tree, tree.getClassBody() == null);
        makes(tree);
        return super.visitNewClass(tree, nothing);
    }

    @Override
    public Void visitNewArray(NewArrayTree tree, Void nothing) {
        makes(tree);
        return super.visitNewArray(tree, nothing);
    }

    /** Nothing is made again and again, but for the four places. */
    private void makes(Tree tree) {
        boolean constructor = method == null || method.getKind() == ElementKind.CONSTRUCTOR;
        rule(12, "made in a loop", tree, loops == 0 || constructor);
    }

    @Override
    public Void visitForLoop(ForLoopTree tree, Void nothing) {
        loops++;
        boolean counts = tree.getCondition() instanceof BinaryTree && !tree.getUpdate().isEmpty();
        rule(9, "a loop with an end", tree, counts);
        super.visitForLoop(tree, nothing);
        loops--;
        return null;
    }

    @Override
    public Void visitTypeCast(TypeCastTree tree, Void nothing) {
        rule(6, "a cast of numbers", tree, tree.getType().getKind() == Tree.Kind.PRIMITIVE_TYPE);
        return super.visitTypeCast(tree, nothing);
    }

    @Override
    public Void visitBinary(BinaryTree tree, Void nothing) {
        String left = plain(trees.getTypeMirror(new TreePath(getCurrentPath(), tree.getLeftOperand())));
        String right = plain(trees.getTypeMirror(new TreePath(getCurrentPath(), tree.getRightOperand())));
        rule(10, "texts joined or compared by a sign", tree, !left.equals("String") && !right.equals("String"));
        return super.visitBinary(tree, nothing);
    }

    /** Rule 1: what can be seen from outside is the document's face, and no other method has its names. */
    private void face(String document) {
        Set<String> wanted = new TreeSet<>();
        for (String line : document.substring(document.indexOf("```java"), document.indexOf("## Terms")).split("\n")) {
            String face = line.trim();
            if (face.startsWith("public") && face.endsWith(");")) {
                wanted.add(face.replace("public ", "").replaceAll(" \\w+([,)])", "$1").replaceAll("[; ]", ""));
            }
        }
        Set<String> found = new TreeSet<>();
        Set<String> names = new HashSet<>();
        for (ExecutableElement each : calls.keySet()) {
            boolean outer = each.getEnclosingElement().toString().equals("DrawingHouse");
            if (outer && !each.getModifiers().contains(Modifier.PRIVATE)) {
                boolean constructor = each.getKind() == ElementKind.CONSTRUCTOR;
                found.add((constructor ? "" : each.getReturnType()) + each.toString());
                Check.due("rule 1: public " + each, each.getModifiers().equals(Set.of(Modifier.PUBLIC)), true);
                names.add(each.getSimpleName().toString());
            }
        }
        Check.due("rule 1: the face", found.toString(), wanted.toString());
        names.remove("<init>");
        for (ExecutableElement each : calls.keySet()) {
            boolean hidden = !each.getModifiers().contains(Modifier.PUBLIC);
            Check.due("rule 1: the name of " + each, hidden && names.contains(each.getSimpleName().toString()), false);
        }
    }

    /** Rule 11: calls that are no recursion go at most eight deep. */
    private void callsAreShallow() {
        Map<ExecutableElement, Set<ExecutableElement>> reached = new LinkedHashMap<>();
        for (ExecutableElement each : calls.keySet()) {
            Set<ExecutableElement> found = new LinkedHashSet<>();
            List<ExecutableElement> left = new ArrayList<>(calls.get(each));
            for (int k = 0; k < left.size(); k++) {
                if (found.add(left.get(k))) {
                    left.addAll(calls.getOrDefault(left.get(k), Set.of()));
                }
            }
            reached.put(each, found);
        }
        for (ExecutableElement each : calls.keySet()) {
            Check.due("rule 11: calls below " + each, depthOf(each, reached) <= DEEPEST, true);
        }
    }

    private int depthOf(ExecutableElement each, Map<ExecutableElement, Set<ExecutableElement>> reached) {
        int deepest = 0;
        for (ExecutableElement called : calls.getOrDefault(each, Set.of())) {
            if (!reached.getOrDefault(called, Set.of()).contains(each)) {
                deepest = Math.max(deepest, depthOf(called, reached));
            }
        }
        return deepest + 1;
    }
}
