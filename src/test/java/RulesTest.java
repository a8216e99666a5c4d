import com.sun.source.tree.*;
import com.sun.source.util.JavacTask;
import com.sun.source.util.TreePath;
import com.sun.source.util.TreePathScanner;
import com.sun.source.util.Trees;
import java.nio.file.Path;
import java.util.ArrayList;
import java.util.LinkedHashMap;
import java.util.LinkedHashSet;
import java.util.List;
import java.util.Map;
import java.util.Set;
import java.util.TreeSet;
import javax.lang.model.element.Element;
import javax.lang.model.element.ElementKind;
import javax.lang.model.element.ExecutableElement;
import javax.lang.model.element.Modifier;
import javax.lang.model.element.VariableElement;
import javax.lang.model.type.ArrayType;
import javax.lang.model.type.TypeKind;
import javax.lang.model.type.TypeMirror;
import javax.tools.JavaCompiler;
import javax.tools.StandardJavaFileManager;
import javax.tools.ToolProvider;

/**
 * The rules of LANGUAGE.md, asked of the class as the compiler reads it: names are looked up, so that a
 * call is known by what it calls. Where this project keeps to less than a rule leaves (no objects made
 * by calls, no while), that is asked, too.
 */
public final class RulesTest {
    private static final Set<String> LIBRARY = Set.of(
        "String.length", "String.charAt", "String.isEmpty", "String.equals", "String.indexOf", "String.substring", "String.toCharArray",
        "StringBuilder.append", "StringBuilder.charAt", "StringBuilder.setCharAt", "StringBuilder.setLength",
        "StringBuilder.deleteCharAt", "StringBuilder.reverse", "StringBuilder.length", "StringBuilder.toString",
        "Integer.compare", "Integer.max", "Integer.min", "Integer.bitCount", "Long.compare", "Long.max", "Long.min", "Long.bitCount",
        "Math.max", "Math.min", "Math.abs", "Math.floorDiv", "Math.floorMod",
        "System.arraycopy", "Arrays.copyOf", "Arrays.copyOfRange", "Arrays.fill");
    private static final Set<Tree.Kind> NEVER = Set.of(Tree.Kind.THROW, Tree.Kind.TRY, Tree.Kind.CATCH, Tree.Kind.SYNCHRONIZED,
        Tree.Kind.ASSERT, Tree.Kind.LAMBDA_EXPRESSION, Tree.Kind.MEMBER_REFERENCE, Tree.Kind.PACKAGE, Tree.Kind.TYPE_CAST,
        Tree.Kind.INSTANCE_OF, Tree.Kind.WHILE_LOOP, Tree.Kind.DO_WHILE_LOOP, Tree.Kind.DIVIDE_ASSIGNMENT,
        Tree.Kind.REMAINDER_ASSIGNMENT);
    private static final Set<Tree.Kind> COMPARISONS = Set.of(Tree.Kind.LESS_THAN, Tree.Kind.LESS_THAN_EQUAL,
        Tree.Kind.GREATER_THAN, Tree.Kind.GREATER_THAN_EQUAL);
    private static final int MOST_DEEP = 8;
    private static final int MOST_LINES = 60;

    private static final Set<String> wrong = new LinkedHashSet<>();
    private static int asked = 0;
    private static Trees trees;
    private static CompilationUnitTree unit;
    private static final Map<Element, Set<Element>> calls = new LinkedHashMap<>();

    private static void check(boolean holds, String rule, Object what) {
        asked++;
        if (!holds) {
            wrong.add("rule " + rule + ": " + what);
        }
    }

    private static String at(Tree tree) {
        long place = trees.getSourcePositions().getStartPosition(unit, tree);
        return "line " + unit.getLineMap().getLineNumber(place) + ": " + tree.toString().trim().split("\n")[0];
    }

    private static long lines(Tree tree) {
        LineMap map = unit.getLineMap();
        long begin = map.getLineNumber(trees.getSourcePositions().getStartPosition(unit, tree));
        return map.getLineNumber(trees.getSourcePositions().getEndPosition(unit, tree)) - begin + 1;
    }

    private static boolean isOwn(Element element) {
        Element at = element;
        while (at.getKind() != ElementKind.PACKAGE && at.getEnclosingElement().getKind() != ElementKind.PACKAGE) {
            at = at.getEnclosingElement();
        }
        return at.getSimpleName().contentEquals("ManyHands");
    }

    private static boolean isText(TypeMirror type) {
        return type != null && type.toString().equals("java.lang.String");
    }

    /** Rule 3, without what the class has no use for: lists, doubles and floats. */
    private static boolean isAllowed(TypeMirror type) {
        if (type.getKind() == TypeKind.ARRAY) {
            TypeMirror of = ((ArrayType) type).getComponentType();
            return of.getKind() == TypeKind.ARRAY ? ((ArrayType) of).getComponentType().getKind().isPrimitive() : isAllowed(of);
        }
        boolean isNumber = type.getKind().isPrimitive() && type.getKind() != TypeKind.DOUBLE && type.getKind() != TypeKind.FLOAT;
        return isNumber || type.getKind() == TypeKind.VOID || isText(type) || type.toString().startsWith("ManyHands");
    }

    private static boolean hasComparison(ExpressionTree condition) {
        boolean[] has = {false};
        new com.sun.source.util.TreeScanner<Void, Void>() {
            @Override public Void visitBinary(BinaryTree tree, Void none) {
                has[0] |= COMPARISONS.contains(tree.getKind());
                return super.visitBinary(tree, none);
            }
        }.scan(condition, null);
        return has[0];
    }

    private static final class Reading extends TreePathScanner<Void, Void> {
        private Element method;

        private Element named(Tree tree) {
            return trees.getElement(new TreePath(getCurrentPath(), tree));
        }

        private TypeMirror typeOf(Tree tree) {
            return trees.getTypeMirror(new TreePath(getCurrentPath(), tree));
        }

        @Override public Void scan(Tree tree, Void none) {
            if (tree != null) {
                boolean isCastOfNumbers = tree.getKind() == Tree.Kind.TYPE_CAST && ((TypeCastTree) tree).getType() instanceof PrimitiveTypeTree;
                check(!NEVER.contains(tree.getKind()) || isCastOfNumbers, "2, 6 or 9", at(tree));
            }
            return super.scan(tree, none);
        }

        @Override public Void visitClass(ClassTree tree, Void none) {
            Element own = trees.getElement(getCurrentPath());
            boolean isTop = own.getSimpleName().contentEquals("ManyHands");
            check(isTop || own.getModifiers().contains(Modifier.STATIC), "2, static", at(tree));
            check(own.getModifiers().contains(Modifier.FINAL), "12, nothing can be overridden", at(tree));
            check(isTop || own.getEnclosingElement().getSimpleName().contentEquals("ManyHands"), "2, no local class", at(tree));
            return super.visitClass(tree, none);
        }

        @Override public Void visitMethod(MethodTree tree, Void none) {
            Element outer = method;
            method = trees.getElement(getCurrentPath());
            calls.put(method, new LinkedHashSet<>());
            check(tree.getParameters().size() <= 7, "11, parameters", at(tree));
            check(lines(tree) <= MOST_LINES, "11, lines", at(tree));
            check(((ExecutableElement) method).getThrownTypes().isEmpty(), "6", at(tree));
            check(!Set.of("equals", "hashCode", "toString").contains(tree.getName().toString()), "6", at(tree));
            check(isAllowed(((ExecutableElement) method).getReturnType()), "3", at(tree));
            super.visitMethod(tree, none);
            method = outer;
            return null;
        }

        @Override public Void visitVariable(VariableTree tree, Void none) {
            VariableElement own = (VariableElement) trees.getElement(getCurrentPath());
            check(isAllowed(own.asType()), "3", at(tree));
            if (own.getKind() == ElementKind.FIELD && own.getModifiers().contains(Modifier.STATIC)) {
                boolean isRow = own.asType().getKind() == TypeKind.ARRAY && tree.getInitializer() instanceof NewArrayTree
                    && ((NewArrayTree) tree.getInitializer()).getInitializers() != null;
                check(own.getModifiers().contains(Modifier.FINAL) && (isRow || own.getConstantValue() != null), "5", at(tree));
            }
            return super.visitVariable(tree, none);
        }

        @Override public Void visitBlock(BlockTree tree, Void none) {
            check(!tree.isStatic(), "5, no static initialiser", at(tree));
            return super.visitBlock(tree, none);
        }

        @Override public Void visitMethodInvocation(MethodInvocationTree tree, Void none) {
            Element called = named(tree.getMethodSelect());
            String name = called.getEnclosingElement().getSimpleName() + "." + called.getSimpleName();
            boolean isMaking = called.getKind() == ElementKind.CONSTRUCTOR;
            check(isMaking || isOwn(called) || LIBRARY.contains(name), "4", at(tree));
            if (method != null && isOwn(called)) {
                calls.get(method).add(called);
            }
            return super.visitMethodInvocation(tree, none);
        }

        private void checkMaking(Tree tree) {
            check(method == null || method.getKind() == ElementKind.CONSTRUCTOR, "12, calls make nothing", at(tree));
        }

        @Override public Void visitNewClass(NewClassTree tree, Void none) {
            check(tree.getClassBody() == null && isOwn(trees.getElement(getCurrentPath())), "2, 4", at(tree));
            checkMaking(tree);
            return super.visitNewClass(tree, none);
        }

        @Override public Void visitNewArray(NewArrayTree tree, Void none) {
            checkMaking(tree);
            return super.visitNewArray(tree, none);
        }

        @Override public Void visitForLoop(ForLoopTree tree, Void none) {
            check(tree.getCondition() != null && hasComparison(tree.getCondition()), "9", at(tree));
            check(!tree.getUpdate().isEmpty(), "9, a counter", at(tree));
            return super.visitForLoop(tree, none);
        }

        @Override public Void visitBinary(BinaryTree tree, Void none) {
            boolean isDivision = tree.getKind() == Tree.Kind.DIVIDE || tree.getKind() == Tree.Kind.REMAINDER;
            if (isDivision) {
                Object by = tree.getRightOperand() instanceof LiteralTree ? ((LiteralTree) tree.getRightOperand()).getValue()
                    : named(tree.getRightOperand()) instanceof VariableElement
                    ? ((VariableElement) named(tree.getRightOperand())).getConstantValue() : null;
                check(by instanceof Number && ((Number) by).longValue() != 0, "7, a divisor is a constant", at(tree));
            }
            boolean isSame = tree.getKind() == Tree.Kind.EQUAL_TO || tree.getKind() == Tree.Kind.NOT_EQUAL_TO;
            check(!isSame || !isText(typeOf(tree.getLeftOperand())), "6, texts are not held by ==", at(tree));
            boolean isJoined = tree.getKind() == Tree.Kind.PLUS
                && (isText(typeOf(tree.getLeftOperand())) || isText(typeOf(tree.getRightOperand())));
            check(!isJoined, "10, texts are not joined by +", at(tree));
            return super.visitBinary(tree, none);
        }

        @Override public Void visitAssignment(AssignmentTree tree, Void none) {
            if (tree.getVariable() instanceof ArrayAccessTree) {
                TreePath row = new TreePath(new TreePath(getCurrentPath(), tree.getVariable()), ((ArrayAccessTree) tree.getVariable()).getExpression());
                Element changed = trees.getElement(row);
                check(changed == null || !changed.getModifiers().contains(Modifier.STATIC), "5, static rows stay", at(tree));
            }
            return super.visitAssignment(tree, none);
        }

        @Override public Void visitLiteral(LiteralTree tree, Void none) {
            if (tree.getValue() instanceof String || tree.getValue() instanceof Character) {
                for (char sign : tree.getValue().toString().toCharArray()) {
                    check(sign >= 1 && sign <= 127, "4, signs", at(tree));
                }
            }
            return super.visitLiteral(tree, none);
        }
    }

    private static String nameOf(Element method) {
        return method.getEnclosingElement().getSimpleName() + "." + method.getSimpleName();
    }

    /** How many calls stand open at once; a method that calls itself counts once, other rounds are refused. */
    private static int depthOf(Element method, List<Element> open) {
        int deepest = 0;
        open.add(method);
        for (Element called : calls.getOrDefault(method, Set.of())) {
            if (called.equals(method)) {
                boolean isPrivateStatic = method.getModifiers().containsAll(Set.of(Modifier.PRIVATE, Modifier.STATIC));
                check(isPrivateStatic, "8", nameOf(method) + " calls itself");
            } else if (open.contains(called)) {
                check(false, "8", nameOf(called) + " comes round by " + nameOf(method));
            } else {
                deepest = Math.max(deepest, depthOf(called, open));
            }
        }
        open.remove(open.size() - 1);
        return deepest + 1;
    }

    private static void lookAtCalls() {
        Set<String> reached = new TreeSet<>();
        for (Element method : calls.keySet()) {
            if (method.getModifiers().contains(Modifier.PUBLIC)) {
                int depth = depthOf(method, new ArrayList<>());
                check(depth <= MOST_DEEP, "11, deep", nameOf(method) + " goes " + depth + " deep");
            }
            for (Element called : calls.get(method)) {
                reached.add(nameOf(called));
            }
        }
        for (Element method : calls.keySet()) {
            boolean isUsed = method.getKind() == ElementKind.CONSTRUCTOR || method.getModifiers().contains(Modifier.PUBLIC)
                || reached.contains(nameOf(method));
            check(isUsed, "1, nothing stands unused", nameOf(method));
        }
    }

    public static void main(String[] args) throws Exception {
        JavaCompiler javac = ToolProvider.getSystemJavaCompiler();
        String path = args.length > 0 ? args[0] : "src/main/java/ManyHands.java";
        try (StandardJavaFileManager files = javac.getStandardFileManager(null, null, null)) {
            JavacTask task = (JavacTask) javac.getTask(null, files, null, List.of("-proc:none"), null, files.getJavaFileObjects(Path.of(path)));
            unit = task.parse().iterator().next();
            task.analyze();
            trees = Trees.instance(task);
            check(unit.getTypeDecls().size() == 1, "1, one class", unit.getTypeDecls().size());
            for (ImportTree one : unit.getImports()) {
                check(one.getQualifiedIdentifier().toString().matches("java\\.util\\.(Arrays|ArrayList|List)"), "4", at(one));
            }
            new Reading().scan(unit, null);
            lookAtCalls();
        }
        for (String what : wrong) {
            System.out.println("not as it should be: " + what);
        }
        System.out.println(asked + " places looked at, " + wrong.size() + " against the rules");
        if (!wrong.isEmpty()) {
            System.exit(1);
        }
    }
}
