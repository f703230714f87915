import com.sun.source.tree.ArrayTypeTree;
import com.sun.source.tree.AssertTree;
import com.sun.source.tree.AssignmentTree;
import com.sun.source.tree.BinaryTree;
import com.sun.source.tree.BlockTree;
import com.sun.source.tree.ClassTree;
import com.sun.source.tree.CompilationUnitTree;
import com.sun.source.tree.CompoundAssignmentTree;
import com.sun.source.tree.DoWhileLoopTree;
import com.sun.source.tree.EnhancedForLoopTree;
import com.sun.source.tree.ExpressionStatementTree;
import com.sun.source.tree.ExpressionTree;
import com.sun.source.tree.ForLoopTree;
import com.sun.source.tree.IdentifierTree;
import com.sun.source.tree.ImportTree;
import com.sun.source.tree.InstanceOfTree;
import com.sun.source.tree.LambdaExpressionTree;
import com.sun.source.tree.LiteralTree;
import com.sun.source.tree.MemberReferenceTree;
import com.sun.source.tree.MemberSelectTree;
import com.sun.source.tree.MethodInvocationTree;
import com.sun.source.tree.MethodTree;
import com.sun.source.tree.NewArrayTree;
import com.sun.source.tree.NewClassTree;
import com.sun.source.tree.PrimitiveTypeTree;
import com.sun.source.tree.StatementTree;
import com.sun.source.tree.SynchronizedTree;
import com.sun.source.tree.ThrowTree;
import com.sun.source.tree.Tree;
import com.sun.source.tree.Tree.Kind;
import com.sun.source.tree.TryTree;
import com.sun.source.tree.TypeCastTree;
import com.sun.source.tree.UnaryTree;
import com.sun.source.tree.VariableTree;
import com.sun.source.tree.WhileLoopTree;
import com.sun.source.util.JavacTask;
import com.sun.source.util.SourcePositions;
import com.sun.source.util.TreeScanner;
import com.sun.source.util.Trees;
import java.io.IOException;
import java.net.URI;
import java.util.ArrayList;
import java.util.EnumSet;
import java.util.HashMap;
import java.util.HashSet;
import java.util.List;
import java.util.Map;
import java.util.Set;
import java.util.TreeSet;
import javax.lang.model.element.Modifier;
import javax.lang.model.type.TypeKind;
import javax.tools.JavaFileObject;
import javax.tools.SimpleJavaFileObject;
import javax.tools.ToolProvider;

/**
 * Finds in a program's text what breaks the rules of LANGUAGE.md, as far as a text shows it without being run.
 *
 * Where a rule leaves a choice that is hard to follow in a text, the plain choice is asked for: arrays are made in the
 * fields' initialisers, each loop is a for with its own counter, and each divisor is a constant.
 */
final class LanguageRules extends TreeScanner<Void, Void> {
    private static final int MOST_PARAMETERS = 7;
    private static final int MOST_LINES = 60;
    private static final int MOST_CALLS_DEEP = 6;
    private static final int MOST_FIELDS = 40;
    private static final Set<TypeKind> NUMBERS = EnumSet.of(
        TypeKind.INT, TypeKind.LONG, TypeKind.SHORT, TypeKind.BYTE, TypeKind.CHAR, TypeKind.BOOLEAN);
    private static final Set<Kind> COMPARISONS = EnumSet.of(
        Kind.LESS_THAN, Kind.LESS_THAN_EQUAL, Kind.GREATER_THAN, Kind.GREATER_THAN_EQUAL);

    private final List<String> breaches = new ArrayList<>();
    private final Map<String, Set<String>> callsOf = new HashMap<>();
    private final Set<String> constants = new HashSet<>();
    private final Set<String> arrays = new HashSet<>();
    private CompilationUnitTree unit;
    private SourcePositions positions;
    private String method = "";
    private int classesAround = 0;
    private int argumentsAround = 0;

    /** One line for each breach, with the number of the rule and of the line. */
    static List<String> breachesOf(String name, String text) throws IOException {
        URI place = URI.create("string:///" + name + ".java");
        JavaFileObject file = new SimpleJavaFileObject(place, JavaFileObject.Kind.SOURCE) {
            @Override
            public CharSequence getCharContent(boolean ignoreEncodingErrors) {
                return text;
            }
        };
        JavacTask task = (JavacTask) ToolProvider.getSystemJavaCompiler()
            .getTask(null, null, null, List.of("--release", "17"), null, List.of(file));
        LanguageRules rules = new LanguageRules();
        rules.positions = Trees.instance(task).getSourcePositions();
        for (CompilationUnitTree tree : task.parse()) {
            rules.unit = tree;
            rules.scan(tree, null);
        }
        rules.recursionAndDepth();
        return rules.breaches;
    }

    private void unless(boolean kept, int rule, String breach, Tree where) {
        if (!kept) {
            breaches.add("rule " + rule + ": " + breach + ", line " + line(positions.getStartPosition(unit, where)));
        }
    }

    private long line(long position) {
        return unit.getLineMap().getLineNumber(position);
    }

    // Rules 1, 3 and 5: the class and its members.

    @Override
    public Void visitCompilationUnit(CompilationUnitTree tree, Void none) {
        unless(tree.getPackageName() == null, 1, "a package line", tree);
        unless(tree.getTypeDecls().size() == 1, 1, "not one class", tree);
        return super.visitCompilationUnit(tree, none);
    }

    @Override
    public Void visitImport(ImportTree tree, Void none) {
        unless(false, 3, "an import", tree);
        return null;
    }

    @Override
    public Void visitClass(ClassTree tree, Void none) {
        Set<Modifier> expected = EnumSet.of(Modifier.PUBLIC, Modifier.FINAL);
        unless(classesAround == 0, 1, "a class in the class", tree);
        unless(tree.getKind() == Kind.CLASS, 1, "not a class", tree);
        unless(tree.getModifiers().getFlags().equals(expected), 1, "the class is not public and final alone", tree);
        unless(tree.getExtendsClause() == null && tree.getImplementsClause().isEmpty(), 2, "another type", tree);
        members(tree);
        classesAround++;
        super.visitClass(tree, none);
        classesAround--;
        return null;
    }

    private void members(ClassTree tree) {
        Set<String> shown = new HashSet<>();
        Set<String> hidden = new HashSet<>();
        int fields = 0;
        for (Tree member : tree.getMembers()) {
            if (member instanceof MethodTree) {
                MethodTree asMethod = (MethodTree) member;
                callsOf.put(asMethod.getName().toString(), new TreeSet<>());
                Set<Modifier> flags = asMethod.getModifiers().getFlags();
                (flags.contains(Modifier.PRIVATE) ? hidden : shown).add(asMethod.getName().toString());
                publicOrPrivate(flags, member);
            } else if (member instanceof VariableTree) {
                field((VariableTree) member);
                fields += constants.contains(((VariableTree) member).getName().toString()) ? 0 : 1;
            } else if (member instanceof BlockTree) {
                unless(false, 5, "an initialiser", member);
            }
        }
        hidden.retainAll(shown);
        unless(hidden.isEmpty(), 1, "private methods with the name of public ones: " + hidden, tree);
        unless(fields <= MOST_FIELDS, 10, fields + " fields", tree);
    }

    private void publicOrPrivate(Set<Modifier> flags, Tree member) {
        unless(flags.contains(Modifier.PUBLIC) || flags.contains(Modifier.PRIVATE), 1, "not public or private", member);
    }

    private void field(VariableTree tree) {
        Set<Modifier> flags = tree.getModifiers().getFlags();
        publicOrPrivate(flags, tree);
        if (flags.contains(Modifier.STATIC)) {
            String type = String.valueOf(tree.getType());
            boolean constant = flags.contains(Modifier.FINAL) && (type.equals("int") || type.equals("long"));
            unless(constant && isConstant(tree.getInitializer()), 5, "a static field that is no constant", tree);
            constants.add(tree.getName().toString());
        } else {
            unless(flags.contains(Modifier.PRIVATE), 1, "a field that is not private", tree);
        }
    }

    private boolean isConstant(Tree tree) {
        if (tree instanceof UnaryTree) {
            return tree.getKind() == Kind.UNARY_MINUS && isConstant(((UnaryTree) tree).getExpression());
        }
        return tree instanceof LiteralTree || (tree instanceof IdentifierTree && constants.contains(tree.toString()));
    }

    // Rules 2, 4 and 6: types, arrays, and what is left out.

    @Override
    public Void visitVariable(VariableTree tree, Void none) {
        type(tree.getType(), tree);
        boolean isArray = tree.getType() instanceof ArrayTypeTree;
        if (isArray) {
            arrays.add(tree.getName().toString());
        }
        if (method.isEmpty() && isArray) {
            unless(tree.getInitializer() instanceof NewArrayTree, 4, "an array field that is not made at once", tree);
            if (tree.getInitializer() instanceof NewArrayTree) {
                newArray((NewArrayTree) tree.getInitializer());
                return null;
            }
        }
        return super.visitVariable(tree, none);
    }

    private void newArray(NewArrayTree tree) {
        boolean oneLength = tree.getInitializers() == null && tree.getDimensions().size() == 1;
        unless(oneLength && isConstant(tree.getDimensions().get(0)), 4, "an array without a constant length", tree);
    }

    private void type(Tree type, Tree where) {
        Tree of = type instanceof ArrayTypeTree ? ((ArrayTypeTree) type).getType() : type;
        boolean number = of instanceof PrimitiveTypeTree && NUMBERS.contains(((PrimitiveTypeTree) of).getPrimitiveTypeKind());
        unless(number, 2, "the type " + type, where);
    }

    @Override
    public Void visitNewArray(NewArrayTree tree, Void none) {
        unless(false, 4, "an array that is not made in a field's initialiser", tree);
        return super.visitNewArray(tree, none);
    }

    @Override
    public Void visitNewClass(NewClassTree tree, Void none) {
        unless(false, 4, "an object is made", tree);
        return super.visitNewClass(tree, none);
    }

    @Override
    public Void visitAssignment(AssignmentTree tree, Void none) {
        unless(!isArray(tree.getVariable()), 4, "an array is assigned", tree);
        return super.visitAssignment(tree, none);
    }

    private boolean isArray(Tree tree) {
        String name = tree.toString();
        return arrays.contains(name.startsWith("this.") ? name.substring("this.".length()) : name);
    }

    @Override
    public Void visitLiteral(LiteralTree tree, Void none) {
        unless(tree.getKind() != Kind.NULL_LITERAL, 4, "null", tree);
        unless(tree.getKind() != Kind.STRING_LITERAL, 2, "a text", tree);
        unless(tree.getKind() != Kind.FLOAT_LITERAL && tree.getKind() != Kind.DOUBLE_LITERAL, 2, "a fraction", tree);
        return null;
    }

    @Override
    public Void visitMemberSelect(MemberSelectTree tree, Void none) {
        boolean own = tree.getExpression().toString().equals("this");
        boolean length = isArray(tree.getExpression()) && tree.getIdentifier().contentEquals("length");
        unless(own || length, 3, "a member of something else, " + tree, tree);
        return super.visitMemberSelect(tree, none);
    }

    @Override
    public Void visitThrow(ThrowTree tree, Void none) {
        unless(false, 6, "throw", tree);
        return null;
    }

    @Override
    public Void visitTry(TryTree tree, Void none) {
        unless(false, 6, "try", tree);
        return super.visitTry(tree, none);
    }

    @Override
    public Void visitSynchronized(SynchronizedTree tree, Void none) {
        unless(false, 6, "synchronized", tree);
        return super.visitSynchronized(tree, none);
    }

    @Override
    public Void visitAssert(AssertTree tree, Void none) {
        unless(false, 6, "assert", tree);
        return super.visitAssert(tree, none);
    }

    @Override
    public Void visitInstanceOf(InstanceOfTree tree, Void none) {
        unless(false, 6, "instanceof", tree);
        return super.visitInstanceOf(tree, none);
    }

    @Override
    public Void visitLambdaExpression(LambdaExpressionTree tree, Void none) {
        unless(false, 6, "a lambda", tree);
        return super.visitLambdaExpression(tree, none);
    }

    @Override
    public Void visitMemberReference(MemberReferenceTree tree, Void none) {
        unless(false, 6, "a method reference", tree);
        return super.visitMemberReference(tree, none);
    }

    @Override
    public Void visitTypeCast(TypeCastTree tree, Void none) {
        unless(tree.getType() instanceof PrimitiveTypeTree, 6, "a cast of a reference", tree);
        type(tree.getType(), tree);
        return super.visitTypeCast(tree, none);
    }

    // Rule 7: divisors; and rule 4's comparisons.

    @Override
    public Void visitBinary(BinaryTree tree, Void none) {
        boolean divides = tree.getKind() == Kind.DIVIDE || tree.getKind() == Kind.REMAINDER;
        unless(!divides || isConstant(tree.getRightOperand()), 7, "a divisor that is no constant", tree);
        boolean compares = tree.getKind() == Kind.EQUAL_TO || tree.getKind() == Kind.NOT_EQUAL_TO;
        boolean withArray = isArray(tree.getLeftOperand()) || isArray(tree.getRightOperand());
        unless(!compares || !withArray, 4, "an array is compared", tree);
        return super.visitBinary(tree, none);
    }

    @Override
    public Void visitCompoundAssignment(CompoundAssignmentTree tree, Void none) {
        boolean divides = tree.getKind() == Kind.DIVIDE_ASSIGNMENT || tree.getKind() == Kind.REMAINDER_ASSIGNMENT;
        unless(!divides || isConstant(tree.getExpression()), 7, "a divisor that is no constant", tree);
        return super.visitCompoundAssignment(tree, none);
    }

    // Rule 8: loops and recursion.

    @Override
    public Void visitWhileLoop(WhileLoopTree tree, Void none) {
        unless(false, 8, "a loop that is not a for", tree);
        return super.visitWhileLoop(tree, none);
    }

    @Override
    public Void visitDoWhileLoop(DoWhileLoopTree tree, Void none) {
        unless(false, 8, "a loop that is not a for", tree);
        return super.visitDoWhileLoop(tree, none);
    }

    @Override
    public Void visitEnhancedForLoop(EnhancedForLoopTree tree, Void none) {
        unless(false, 8, "a loop without a counter", tree);
        return super.visitEnhancedForLoop(tree, none);
    }

    @Override
    public Void visitForLoop(ForLoopTree tree, Void none) {
        List<? extends StatementTree> start = tree.getInitializer();
        boolean counts = start.size() == 1 && start.get(0) instanceof VariableTree && tree.getUpdate().size() == 1;
        unless(counts, 8, "a for without its own counter", tree);
        if (counts) {
            String counter = ((VariableTree) start.get(0)).getName().toString();
            unless(isBounded(tree.getCondition(), counter), 8, counter + " has no bound", tree);
            unless(isStep(tree.getUpdate().get(0), counter), 8, counter + " is not stepped", tree);
            unless(!changes(tree.getStatement(), counter), 8, counter + " changes in the loop", tree);
        }
        return super.visitForLoop(tree, none);
    }

    private static boolean isBounded(Tree condition, String counter) {
        if (!(condition instanceof BinaryTree)) {
            return false;
        }
        BinaryTree both = (BinaryTree) condition;
        if (both.getKind() == Kind.CONDITIONAL_AND) {
            return isBounded(both.getLeftOperand(), counter) || isBounded(both.getRightOperand(), counter);
        }
        return COMPARISONS.contains(both.getKind()) && both.getLeftOperand().toString().equals(counter);
    }

    private static boolean isStep(ExpressionStatementTree update, String counter) {
        ExpressionTree step = update.getExpression();
        boolean byOne = step.getKind() == Kind.POSTFIX_INCREMENT || step.getKind() == Kind.POSTFIX_DECREMENT;
        return byOne && ((UnaryTree) step).getExpression().toString().equals(counter);
    }

    private static boolean changes(StatementTree body, String counter) {
        boolean[] changes = {false};
        new TreeScanner<Void, Void>() {
            @Override
            public Void visitAssignment(AssignmentTree tree, Void none) {
                changes[0] |= tree.getVariable().toString().equals(counter);
                return super.visitAssignment(tree, none);
            }

            @Override
            public Void visitCompoundAssignment(CompoundAssignmentTree tree, Void none) {
                changes[0] |= tree.getVariable().toString().equals(counter);
                return super.visitCompoundAssignment(tree, none);
            }

            @Override
            public Void visitUnary(UnaryTree tree, Void none) {
                boolean steps = tree.getKind().name().contains("CREMENT");
                changes[0] |= steps && tree.getExpression().toString().equals(counter);
                return super.visitUnary(tree, none);
            }
        }.scan(body, null);
        return changes[0];
    }

    private void recursionAndDepth() {
        Map<String, Integer> depths = new HashMap<>();
        // Each round settles the methods whose own calls are settled; what recursion holds is never settled.
        for (int round = 0; round < callsOf.size(); round++) {
            for (Map.Entry<String, Set<String>> entry : callsOf.entrySet()) {
                if (depths.keySet().containsAll(entry.getValue())) {
                    int below = entry.getValue().stream().mapToInt(depths::get).max().orElse(0);
                    depths.put(entry.getKey(), below + 1);
                }
            }
        }
        for (String name : callsOf.keySet()) {
            if (!depths.containsKey(name)) {
                breaches.add("rule 8: " + name + " calls itself or what does");
            } else if (depths.get(name) > MOST_CALLS_DEEP) {
                breaches.add("rule 10: from " + name + " calls go " + depths.get(name) + " deep");
            }
        }
    }

    // Rule 10 (and rule 3's calls): methods.

    @Override
    public Void visitMethod(MethodTree tree, Void none) {
        method = tree.getName().toString();
        long first = line(positions.getStartPosition(unit, tree));
        long last = line(positions.getEndPosition(unit, tree));
        unless(last - first < MOST_LINES, 10, method + " has " + (last - first + 1) + " lines", tree);
        unless(tree.getParameters().size() <= MOST_PARAMETERS, 10, method + " has too many parameters", tree);
        unless(!tree.getModifiers().getFlags().contains(Modifier.SYNCHRONIZED), 6, "synchronized", tree);
        unless(tree.getThrows().isEmpty(), 6, "throws", tree);
        result(tree);
        super.visitMethod(tree, none);
        method = "";
        return null;
    }

    private void result(MethodTree tree) {
        Tree type = tree.getReturnType();
        unless(!(type instanceof ArrayTypeTree), 4, "an array is answered", tree);
        boolean isVoid = type == null || type.toString().equals("void");
        if (!isVoid) {
            type(type, tree);
        }
    }

    @Override
    public Void visitMethodInvocation(MethodInvocationTree tree, Void none) {
        String called = tree.getMethodSelect().toString().replace("this.", "");
        unless(callsOf.containsKey(called), 3, "a call of " + called, tree);
        unless(argumentsAround == 0, 10, "a call in the arguments of a call", tree);
        if (callsOf.containsKey(called) && callsOf.containsKey(method)) {
            callsOf.get(method).add(called);
        }
        scan(tree.getMethodSelect(), none);
        argumentsAround++;
        scan(tree.getArguments(), none);
        argumentsAround--;
        return null;
    }
}
