import com.sun.source.tree.ArrayAccessTree;
import com.sun.source.tree.AssertTree;
import com.sun.source.tree.AssignmentTree;
import com.sun.source.tree.BinaryTree;
import com.sun.source.tree.BlockTree;
import com.sun.source.tree.ClassTree;
import com.sun.source.tree.CompilationUnitTree;
import com.sun.source.tree.CompoundAssignmentTree;
import com.sun.source.tree.DoWhileLoopTree;
import com.sun.source.tree.EnhancedForLoopTree;
import com.sun.source.tree.ExpressionTree;
import com.sun.source.tree.ForLoopTree;
import com.sun.source.tree.InstanceOfTree;
import com.sun.source.tree.LambdaExpressionTree;
import com.sun.source.tree.MemberReferenceTree;
import com.sun.source.tree.MemberSelectTree;
import com.sun.source.tree.MethodInvocationTree;
import com.sun.source.tree.MethodTree;
import com.sun.source.tree.NewArrayTree;
import com.sun.source.tree.NewClassTree;
import com.sun.source.tree.ParenthesizedTree;
import com.sun.source.tree.SynchronizedTree;
import com.sun.source.tree.ThrowTree;
import com.sun.source.tree.Tree;
import com.sun.source.tree.TryTree;
import com.sun.source.tree.TypeCastTree;
import com.sun.source.tree.UnaryTree;
import com.sun.source.tree.VariableTree;
import com.sun.source.tree.WhileLoopTree;
import com.sun.source.util.JavacTask;
import com.sun.source.util.TreePath;
import com.sun.source.util.TreePathScanner;
import com.sun.source.util.TreeScanner;
import com.sun.source.util.Trees;
import java.io.IOException;
import java.net.URI;
import java.util.ArrayList;
import java.util.HashMap;
import java.util.HashSet;
import java.util.List;
import java.util.Map;
import java.util.Set;
import javax.lang.model.element.Element;
import javax.lang.model.element.ElementKind;
import javax.lang.model.element.ExecutableElement;
import javax.lang.model.element.Modifier;
import javax.lang.model.type.ArrayType;
import javax.lang.model.type.TypeMirror;
import javax.tools.JavaCompiler;
import javax.tools.JavaFileObject;
import javax.tools.SimpleJavaFileObject;
import javax.tools.ToolProvider;

/**
 * What a class does against the rules of ../shared/LANGUAGE.md, as far as its source tells it. In places it asks for
 * more than they do, as this class needs less: no recursion, no cast to a class, objects made by constructors alone.
 */
final class Rules extends TreePathScanner<Void, Void> {
    private static final int MOST_PARAMETERS = 7;
    private static final int MOST_LINES = 60;
    private static final int MOST_CLASSES = 12;
    private static final int MOST_FIELDS = 20;
    private static final int DEEPEST_CALLS = 8;
    private static final Set<String> LIBRARY_TYPES = Set.of("void", "int", "long", "short", "byte", "char", "boolean",
            "java.lang.String", "java.lang.StringBuilder");
    private static final Set<String> NUMBERS = Set.of("int", "long", "short", "byte", "char");
    private static final Set<String> CONSTANTS = Set.of("int", "long", "boolean", "char", "java.lang.String",
            "int[]", "long[]", "char[]", "byte[]");
    private static final Set<String> LIBRARY_CALLS = Set.of(
            "java.lang.String.length", "java.lang.String.charAt", "java.lang.String.isEmpty", "java.lang.String.equals",
            "java.lang.String.indexOf", "java.lang.String.substring", "java.lang.String.toCharArray",
            "java.lang.StringBuilder.append", "java.lang.StringBuilder.charAt", "java.lang.StringBuilder.setCharAt",
            "java.lang.StringBuilder.setLength", "java.lang.StringBuilder.deleteCharAt",
            "java.lang.StringBuilder.reverse", "java.lang.StringBuilder.length", "java.lang.StringBuilder.toString",
            "java.lang.Math.max", "java.lang.Math.min", "java.lang.Math.abs", "java.lang.Math.floorDiv",
            "java.lang.Math.floorMod", "java.lang.Integer.compare", "java.lang.Integer.bitCount",
            "java.lang.Long.compare", "java.lang.Long.bitCount", "java.lang.System.arraycopy",
            "java.util.Arrays.copyOf", "java.util.Arrays.copyOfRange", "java.util.Arrays.fill",
            "java.lang.Object.<init>", "java.lang.Enum.<init>", "java.lang.Record.<init>");

    private final String name;
    private final Trees trees;
    private final CompilationUnitTree unit;
    private final List<String> broken = new ArrayList<>();
    private final Set<String> publicMethods = new HashSet<>();
    private final Map<Element, Set<Element>> calls = new HashMap<>();
    private int classes;

    private Rules(String name, Trees trees, CompilationUnitTree unit) {
        this.name = name;
        this.trees = trees;
        this.unit = unit;
    }

    /** Each of them begins with the number of the rule. */
    static List<String> brokenBy(String name, String source) throws IOException {
        JavaFileObject file = new SimpleJavaFileObject(URI.create("string:///" + name + ".java"),
                JavaFileObject.Kind.SOURCE) {
            @Override
            public CharSequence getCharContent(boolean ignoreEncodingErrors) {
                return source;
            }
        };
        JavaCompiler compiler = ToolProvider.getSystemJavaCompiler();
        JavacTask task = (JavacTask) compiler.getTask(null, null, problem -> { }, List.of("-proc:none"), null,
                List.of(file));
        CompilationUnitTree unit = task.parse().iterator().next();
        task.analyze();
        Rules rules = new Rules(name, Trees.instance(task), unit);
        rules.sourceAsText(source);
        rules.namesOfPublicMethods();
        rules.scan(unit, null);
        rules.depthOfCalls();
        return rules.broken;
    }

    private void say(int rule, Tree where, String what) {
        long line = unit.getLineMap().getLineNumber(trees.getSourcePositions().getStartPosition(unit, where));
        broken.add(rule + ": line " + line + ": " + what);
    }

    private void sourceAsText(String source) {
        if (!source.chars().allMatch(c -> c >= 1 && c <= 127)) {
            broken.add("4: a sign that is not 1 to 127");
        }
        if (unit.getPackageName() != null || !unit.getImports().isEmpty()) {
            broken.add("4: a package line, or an import");
        }
        if (unit.getTypeDecls().size() != 1) {
            broken.add("1: more than one class in the file");
        }
    }

    private void namesOfPublicMethods() {
        ClassTree outer = (ClassTree) unit.getTypeDecls().get(0);
        for (Tree member : outer.getMembers()) {
            if (member instanceof MethodTree method && method.getReturnType() != null
                    && method.getModifiers().getFlags().contains(Modifier.PUBLIC)) {
                publicMethods.add(method.getName().toString());
            }
        }
    }

    // ---- classes, methods, fields

    @Override
    public Void visitClass(ClassTree tree, Void none) {
        classes++;
        if (classes == MOST_CLASSES + 1) {
            say(11, tree, "more than " + MOST_CLASSES + " classes");
        }
        Set<Modifier> flags = tree.getModifiers().getFlags();
        Tree around = getCurrentPath().getParentPath().getLeaf();
        if (around instanceof CompilationUnitTree) {
            if (!flags.equals(Set.of(Modifier.PUBLIC, Modifier.FINAL))) {
                say(1, tree, "the class is not public and final");
            }
        } else if (!(around instanceof ClassTree)) {
            say(2, tree, "a local or anonymous class");
        } else if (tree.getKind() == Tree.Kind.CLASS && !flags.contains(Modifier.STATIC)) {
            say(2, tree, "an inner class that is not static");
        } else if (flags.contains(Modifier.PUBLIC) || flags.contains(Modifier.PROTECTED)) {
            say(1, tree, "a public or protected class inside");
        }
        int fields = 0;
        for (Tree member : tree.getMembers()) {
            if (member instanceof VariableTree field && !field.getModifiers().getFlags().contains(Modifier.STATIC)) {
                fields++;
            }
            if (member instanceof BlockTree block) {
                say(block.isStatic() ? 5 : 12, member, "an initialiser block");
            }
        }
        if (fields > MOST_FIELDS) {
            say(11, tree, fields + " fields");
        }
        return super.visitClass(tree, none);
    }

    @Override
    public Void visitMethod(MethodTree tree, Void none) {
        Set<Modifier> flags = tree.getModifiers().getFlags();
        if (!flags.contains(Modifier.PUBLIC) && publicMethods.contains(tree.getName().toString())) {
            say(1, tree, tree.getName() + " bears the name of a public method");
        }
        if (isOfOuterClass() && !flags.contains(Modifier.PUBLIC) && !flags.contains(Modifier.PRIVATE)) {
            say(1, tree, tree.getName() + " is neither public nor private");
        }
        if (!tree.getThrows().isEmpty() || flags.contains(Modifier.SYNCHRONIZED) || flags.contains(Modifier.NATIVE)) {
            say(6, tree, tree.getName() + " throws, or is synchronized or native");
        }
        if (tree.getParameters().size() > MOST_PARAMETERS) {
            say(11, tree, tree.getName() + " takes more than " + MOST_PARAMETERS + " parameters");
        }
        long start = trees.getSourcePositions().getStartPosition(unit, tree);
        long end = trees.getSourcePositions().getEndPosition(unit, tree);
        long lines = end < 0 ? 0 : unit.getLineMap().getLineNumber(end) - unit.getLineMap().getLineNumber(start) + 1;
        if (lines > MOST_LINES) {
            say(11, tree, tree.getName() + " has " + lines + " lines");
        }
        ExecutableElement method = (ExecutableElement) trees.getElement(getCurrentPath());
        if (!isAllowed(method.getReturnType())) {
            say(3, tree, tree.getName() + " answers " + method.getReturnType());
        }
        calls.computeIfAbsent(method, key -> new HashSet<>());
        return super.visitMethod(tree, none);
    }

    private boolean isOfOuterClass() {
        return getCurrentPath().getParentPath().getParentPath().getLeaf() instanceof CompilationUnitTree;
    }

    @Override
    public Void visitVariable(VariableTree tree, Void none) {
        Element variable = trees.getElement(getCurrentPath());
        Set<Modifier> flags = tree.getModifiers().getFlags();
        TypeMirror type = variable.asType();
        if (!isAllowed(type)) {
            say(3, tree, tree.getName() + " is of the type " + type);
        }
        if (variable.getKind() == ElementKind.FIELD) {
            if (flags.contains(Modifier.STATIC)) {
                staticField(tree, flags, type);
            } else if (isOfOuterClass() && !flags.contains(Modifier.PRIVATE)) {
                say(1, tree, tree.getName() + " is not private");
            }
        }
        return super.visitVariable(tree, none);
    }

    private void staticField(VariableTree tree, Set<Modifier> flags, TypeMirror type) {
        boolean writtenOut = !type.toString().endsWith("[]")
                || tree.getInitializer() instanceof NewArrayTree array && array.getInitializers() != null;
        if (!flags.contains(Modifier.FINAL) || !CONSTANTS.contains(type.toString()) || !writtenOut) {
            say(5, tree, tree.getName() + " is static, and not final, a constant or an array written out");
        }
    }

    private boolean isAllowed(TypeMirror type) {
        String told = type.toString();
        int dimensions = 0;
        TypeMirror part = type;
        while (part instanceof ArrayType array) {
            dimensions++;
            part = array.getComponentType();
        }
        String element = told.replace("[]", "");
        boolean known = LIBRARY_TYPES.contains(element) || element.equals(name) || element.startsWith(name + ".");
        return known && (dimensions < 2 || dimensions == 2 && NUMBERS.contains(element));
    }

    // ---- calls and names

    @Override
    public Void visitMethodInvocation(MethodInvocationTree tree, Void none) {
        Element method = trees.getElement(new TreePath(getCurrentPath(), tree.getMethodSelect()));
        Element from = methodAround();
        if (from != null) {
            calls.computeIfAbsent(from, key -> new HashSet<>()).add(method);
        }
        if (method != null && !isOwn(method)) {
            String told = method.getEnclosingElement() + "." + method.getSimpleName();
            boolean isClone = told.endsWith(".clone");
            if (!LIBRARY_CALLS.contains(told) && !isClone) {
                say(4, tree, told + " is no call of the library that is allowed");
            }
        }
        if (from != null && from.getKind() == ElementKind.CONSTRUCTOR) {
            for (ExpressionTree argument : tree.getArguments()) {
                if (argument.toString().equals("this")) {
                    say(12, tree, "a constructor hands out its object");
                }
            }
        }
        return super.visitMethodInvocation(tree, none);
    }

    private Element methodAround() {
        for (Tree tree : getCurrentPath()) {
            if (tree instanceof MethodTree) {
                return trees.getElement(trees.getPath(unit, tree));
            }
        }
        return null;
    }

    private boolean isOwn(Element element) {
        Element outermost = element;
        while (outermost.getEnclosingElement() != null
                && outermost.getEnclosingElement().getKind() != ElementKind.PACKAGE) {
            outermost = outermost.getEnclosingElement();
        }
        return outermost.getSimpleName().contentEquals(name);
    }

    @Override
    public Void visitMemberSelect(MemberSelectTree tree, Void none) {
        Element element = trees.getElement(getCurrentPath());
        boolean isLength = tree.getIdentifier().contentEquals("length");
        if (element != null && element.getKind() == ElementKind.FIELD && !isOwn(element) && !isLength) {
            say(4, tree, tree + " is no part of the library that is allowed");
        }
        return super.visitMemberSelect(tree, none);
    }

    private void depthOfCalls() {
        for (Element method : calls.keySet()) {
            int depth = depthFrom(method, new HashSet<>());
            if (depth > DEEPEST_CALLS) {
                broken.add("11: " + method + " calls " + depth + " deep");
            }
        }
    }

    private int depthFrom(Element method, Set<Element> open) {
        if (!open.add(method)) {
            broken.add("8: " + method + " calls itself");
            return 0;
        }
        int deepest = 0;
        for (Element called : calls.getOrDefault(method, Set.of())) {
            deepest = Math.max(deepest, depthFrom(called, open));
        }
        open.remove(method);
        return deepest + 1;
    }

    // ---- what is made

    @Override
    public Void visitNewClass(NewClassTree tree, Void none) {
        made(tree);
        return super.visitNewClass(tree, none);
    }

    @Override
    public Void visitNewArray(NewArrayTree tree, Void none) {
        made(tree);
        return super.visitNewArray(tree, none);
    }

    private void made(Tree tree) {
        Element around = methodAround();
        if (around != null && around.getKind() != ElementKind.CONSTRUCTOR) {
            say(12, tree, around + " makes " + tree);
        }
    }

    @Override
    public Void visitAssignment(AssignmentTree tree, Void none) {
        changed(tree.getVariable());
        return super.visitAssignment(tree, none);
    }

    @Override
    public Void visitCompoundAssignment(CompoundAssignmentTree tree, Void none) {
        changed(tree.getVariable());
        return super.visitCompoundAssignment(tree, none);
    }

    @Override
    public Void visitUnary(UnaryTree tree, Void none) {
        if (isStep(tree)) {
            changed(tree.getExpression());
        }
        return super.visitUnary(tree, none);
    }

    private void changed(ExpressionTree variable) {
        if (variable instanceof ArrayAccessTree access) {
            Element array = trees.getElement(trees.getPath(unit, access.getExpression()));
            if (array != null && array.getModifiers().contains(Modifier.STATIC)) {
                say(5, variable, array + " is static and is changed");
            }
        }
    }

    // ---- what is not allowed at all

    @Override
    public Void visitLambdaExpression(LambdaExpressionTree tree, Void none) {
        say(2, tree, "a lambda");
        return super.visitLambdaExpression(tree, none);
    }

    @Override
    public Void visitMemberReference(MemberReferenceTree tree, Void none) {
        say(2, tree, "a method reference");
        return super.visitMemberReference(tree, none);
    }

    @Override
    public Void visitThrow(ThrowTree tree, Void none) {
        say(6, tree, "throw");
        return super.visitThrow(tree, none);
    }

    @Override
    public Void visitTry(TryTree tree, Void none) {
        say(6, tree, "try");
        return super.visitTry(tree, none);
    }

    @Override
    public Void visitSynchronized(SynchronizedTree tree, Void none) {
        say(6, tree, "synchronized");
        return super.visitSynchronized(tree, none);
    }

    @Override
    public Void visitAssert(AssertTree tree, Void none) {
        say(6, tree, "assert");
        return super.visitAssert(tree, none);
    }

    @Override
    public Void visitInstanceOf(InstanceOfTree tree, Void none) {
        say(6, tree, "instanceof");
        return super.visitInstanceOf(tree, none);
    }

    @Override
    public Void visitTypeCast(TypeCastTree tree, Void none) {
        if (!trees.getTypeMirror(getCurrentPath()).getKind().isPrimitive()) {
            say(6, tree, "a cast to a class");
        }
        return super.visitTypeCast(tree, none);
    }

    @Override
    public Void visitBinary(BinaryTree tree, Void none) {
        boolean ofStrings = isString(tree.getLeftOperand()) || isString(tree.getRightOperand());
        if (ofStrings) {
            say(tree.getKind() == Tree.Kind.PLUS ? 10 : 6, tree, tree + " over a String");
        }
        return super.visitBinary(tree, none);
    }

    private boolean isString(ExpressionTree tree) {
        TypeMirror type = trees.getTypeMirror(trees.getPath(unit, tree));
        return type != null && type.toString().equals("java.lang.String");
    }

    // ---- loops

    @Override
    public Void visitWhileLoop(WhileLoopTree tree, Void none) {
        endOfLoop(tree, tree.getCondition());
        return super.visitWhileLoop(tree, none);
    }

    @Override
    public Void visitDoWhileLoop(DoWhileLoopTree tree, Void none) {
        endOfLoop(tree, tree.getCondition());
        return super.visitDoWhileLoop(tree, none);
    }

    @Override
    public Void visitForLoop(ForLoopTree tree, Void none) {
        endOfLoop(tree, tree.getCondition());
        return super.visitForLoop(tree, none);
    }

    @Override
    public Void visitEnhancedForLoop(EnhancedForLoopTree tree, Void none) {
        if (!(trees.getTypeMirror(trees.getPath(unit, tree.getExpression())) instanceof ArrayType)) {
            say(4, tree, "for over something that is no array");
        }
        return super.visitEnhancedForLoop(tree, none);
    }

    /** The condition asks for a counter that is within a bound, and the loop counts it on. */
    private void endOfLoop(Tree loop, ExpressionTree condition) {
        Set<String> countedOn = new HashSet<>();
        new TreeScanner<Void, Void>() {
            @Override
            public Void visitUnary(UnaryTree tree, Void none) {
                if (isStep(tree)) {
                    countedOn.add(tree.getExpression().toString());
                }
                return super.visitUnary(tree, none);
            }
        }.scan(loop, null);
        if (condition == null || !holdsCounter(condition, countedOn)) {
            say(9, loop, "no counter against a bound");
        }
    }

    private static boolean holdsCounter(ExpressionTree condition, Set<String> countedOn) {
        if (condition instanceof ParenthesizedTree inner) {
            return holdsCounter(inner.getExpression(), countedOn);
        }
        if (!(condition instanceof BinaryTree both)) {
            return false;
        }
        return switch (both.getKind()) {
            case CONDITIONAL_AND -> holdsCounter(both.getLeftOperand(), countedOn)
                    || holdsCounter(both.getRightOperand(), countedOn);
            case LESS_THAN, LESS_THAN_EQUAL, GREATER_THAN, GREATER_THAN_EQUAL ->
                    countedOn.contains(both.getLeftOperand().toString());
            default -> false;
        };
    }

    private static boolean isStep(UnaryTree tree) {
        return switch (tree.getKind()) {
            case PREFIX_INCREMENT, POSTFIX_INCREMENT, PREFIX_DECREMENT, POSTFIX_DECREMENT -> true;
            default -> false;
        };
    }
}
