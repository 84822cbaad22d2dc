import com.sun.source.tree.*;
import com.sun.source.util.JavacTask;
import com.sun.source.util.SourcePositions;
import com.sun.source.util.TreeScanner;
import com.sun.source.util.Trees;
import java.io.IOException;
import java.nio.file.Path;
import java.util.EnumSet;
import java.util.HashSet;
import java.util.List;
import java.util.Map;
import java.util.Set;
import java.util.TreeMap;
import java.util.TreeSet;
import javax.lang.model.element.Modifier;
import javax.lang.model.type.TypeKind;
import javax.tools.JavaCompiler;
import javax.tools.StandardJavaFileManager;
import javax.tools.ToolProvider;

/**
 * The rules of LANGUAGE.md, but for 7 and 11, looked for in the tree that javac makes of the source.
 * Where a rule is hard to tell from a tree, what is asked here is narrower than the rule: an array is
 * a field and is only ever indexed, and each loop counts a local number up to a bound. Run at the
 * project's root.
 */
public final class LanguageTest {
    private static final Path SOURCE = Path.of("src/main/java/SoundArchive.java");
    private static final Set<TypeKind> NUMBERS = EnumSet.of(TypeKind.INT, TypeKind.LONG, TypeKind.SHORT,
            TypeKind.BYTE, TypeKind.CHAR, TypeKind.BOOLEAN);
    private static final Set<Tree.Kind> LEFT_OUT = EnumSet.of(Tree.Kind.THROW, Tree.Kind.TRY, Tree.Kind.SYNCHRONIZED,
            Tree.Kind.ASSERT, Tree.Kind.INSTANCE_OF, Tree.Kind.LAMBDA_EXPRESSION, Tree.Kind.MEMBER_REFERENCE,
            Tree.Kind.NEW_CLASS, Tree.Kind.NULL_LITERAL, Tree.Kind.STRING_LITERAL, Tree.Kind.FLOAT_LITERAL,
            Tree.Kind.DOUBLE_LITERAL, Tree.Kind.ANNOTATION, Tree.Kind.MEMBER_SELECT);
    private static int wrong = 0;

    private static void check(int rule, boolean good, String what, Object where) {
        if (!good) {
            wrong++;
            System.out.println("rule " + rule + ": " + what + ": " + where.toString().strip().lines().findFirst().orElse(""));
        }
    }

    private static boolean isNumber(Tree type) {
        return type instanceof PrimitiveTypeTree primitive && NUMBERS.contains(primitive.getPrimitiveTypeKind());
    }

    private static boolean isArray(Tree type) {
        return type instanceof ArrayTypeTree array && isNumber(array.getType());
    }

    private static boolean isVoid(Tree type) {
        return type instanceof PrimitiveTypeTree primitive && primitive.getPrimitiveTypeKind() == TypeKind.VOID;
    }

    private static boolean isConstant(VariableTree field) {
        return field.getModifiers().getFlags().containsAll(EnumSet.of(Modifier.STATIC, Modifier.FINAL));
    }

    /** Every name that the class itself declares, fields, methods, parameters and locals alike. */
    private static Set<String> declaredNames(ClassTree type) {
        Set<String> names = new HashSet<>();
        new TreeScanner<Void, Void>() {
            @Override
            public Void visitVariable(VariableTree variable, Void nothing) {
                names.add(variable.getName().toString());
                return super.visitVariable(variable, nothing);
            }

            @Override
            public Void visitMethod(MethodTree method, Void nothing) {
                names.add(method.getName().toString());
                return super.visitMethod(method, nothing);
            }
        }.scan(type, null);
        return names;
    }

    private static Set<String> namesOfArrays(ClassTree type) {
        Set<String> names = new HashSet<>();
        for (Tree member : type.getMembers()) {
            if (member instanceof VariableTree field && isArray(field.getType())) {
                names.add(field.getName().toString());
            }
        }
        return names;
    }

    /** The names of the methods that could change a field, and of the fields that could be changed. */
    private static Set<String> namesOfObject(ClassTree type) {
        Set<String> names = new HashSet<>();
        for (Tree member : type.getMembers()) {
            if (member instanceof VariableTree field && !isConstant(field)) {
                names.add(field.getName().toString());
            } else if (member instanceof MethodTree method && !method.getModifiers().getFlags().contains(Modifier.STATIC)) {
                names.add(method.getName().toString());
            }
        }
        return names;
    }

    /** What may stand nowhere in the class, neither in its fields nor in its methods. */
    private static void checkWords(ClassTree type) {
        Set<String> names = declaredNames(type);
        Set<String> arrays = namesOfArrays(type);
        new TreeScanner<Void, Void>() {
            @Override
            public Void scan(Tree tree, Void nothing) {
                check(6, tree == null || !LEFT_OUT.contains(tree.getKind()), "left out", tree == null ? "" : tree);
                return super.scan(tree, nothing);
            }

            @Override
            public Void visitVariable(VariableTree variable, Void nothing) {
                check(2, isNumber(variable.getType()) || isArray(variable.getType()), "the type", variable);
                return super.visitVariable(variable, nothing);
            }

            @Override
            public Void visitTypeCast(TypeCastTree cast, Void nothing) {
                check(6, isNumber(cast.getType()), "a cast to no number", cast);
                return super.visitTypeCast(cast, nothing);
            }

            @Override
            public Void visitArrayAccess(ArrayAccessTree access, Void nothing) {
                check(4, arrays.contains(access.getExpression().toString()), "an index on no field", access);
                return scan(access.getIndex(), nothing);
            }

            @Override
            public Void visitIdentifier(IdentifierTree name, Void nothing) {
                check(3, names.contains(name.getName().toString()), "a name from outside", name);
                check(4, !arrays.contains(name.getName().toString()), "an array that is not indexed", name);
                return super.visitIdentifier(name, nothing);
            }
        }.scan(type.getMembers(), null);
    }

    private static void checkField(VariableTree field) {
        Set<Modifier> flags = field.getModifiers().getFlags();
        if (flags.contains(Modifier.STATIC)) {
            boolean whole = List.of("int", "long").contains(field.getType().toString());
            check(5, whole && isConstant(field) && field.getInitializer() != null, "no constant", field);
        } else if (isArray(field.getType())) {
            check(4, flags.contains(Modifier.FINAL) && makesArray(field.getInitializer()), "not made once at the start", field);
        }
    }

    private static boolean makesArray(Tree tree) {
        return tree instanceof NewArrayTree array && array.getDimensions().size() == 1 && array.getInitializers() == null
                && (array.getDimensions().get(0) instanceof LiteralTree || array.getDimensions().get(0).toString().matches("[A-Z_]+"));
    }

    /**
     * A counted loop: for (int p = ..; p < bound; p++), where the body sets neither p nor the bound, and,
     * if the bound is a field, calls no method that could.
     */
    private static void checkLoop(ForLoopTree loop, Set<String> ofObject) {
        String head = loop.toString().lines().findFirst().orElse("");
        boolean counted = head.matches("for \\(int (\\w+) = \\w+; \\1 < \\w+; \\1\\+\\+\\) \\{");
        check(8, counted, "a loop that is not counted", loop);
        if (counted) {
            BinaryTree condition = (BinaryTree) loop.getCondition();
            Set<String> fixed = Set.of(condition.getLeftOperand().toString(), condition.getRightOperand().toString());
            checkFixed(loop, fixed, ofObject.contains(condition.getRightOperand().toString()) ? ofObject : Set.of());
        }
    }

    private static void checkFixed(ForLoopTree loop, Set<String> fixed, Set<String> refused) {
        new TreeScanner<Void, Void>() {
            @Override
            public Void visitMethodInvocation(MethodInvocationTree call, Void nothing) {
                check(8, !refused.contains(call.getMethodSelect().toString()), "could set the bound of its loop", call);
                return super.visitMethodInvocation(call, nothing);
            }

            @Override
            public Void visitAssignment(AssignmentTree set, Void nothing) {
                check(8, !fixed.contains(set.getVariable().toString()), "set in its loop", set);
                return super.visitAssignment(set, nothing);
            }

            @Override
            public Void visitCompoundAssignment(CompoundAssignmentTree set, Void nothing) {
                check(8, !fixed.contains(set.getVariable().toString()), "set in its loop", set);
                return super.visitCompoundAssignment(set, nothing);
            }

            @Override
            public Void visitUnary(UnaryTree set, Void nothing) {
                boolean sets = set.getKind().name().endsWith("CREMENT");
                check(8, !sets || !fixed.contains(set.getExpression().toString()), "set in its loop", set);
                return super.visitUnary(set, nothing);
            }
        }.scan(loop.getStatement(), null);
    }

    /** Looks through a method, and answers the names of the methods that it calls. */
    private static Set<String> checkMethod(MethodTree method, Set<String> ofObject) {
        Set<String> called = new TreeSet<>();
        boolean constructor = method.getReturnType() == null;
        check(2, constructor || isNumber(method.getReturnType()) || isVoid(method.getReturnType()), "the answer", method.getName());
        check(10, method.getParameters().size() <= 7, "more than seven parameters", method.getName());
        new TreeScanner<Void, Void>() {
            private int callsAround = 0;

            @Override
            public Void visitVariable(VariableTree variable, Void nothing) {
                check(4, isNumber(variable.getType()), "an array that is no field", variable);
                return super.visitVariable(variable, nothing);
            }

            @Override
            public Void visitMethodInvocation(MethodInvocationTree call, Void nothing) {
                check(10, callsAround == 0, "a call inside the arguments of a call", call);
                called.add(call.getMethodSelect().toString());
                callsAround++;
                super.visitMethodInvocation(call, nothing);
                callsAround--;
                return nothing;
            }

            @Override
            public Void visitNewArray(NewArrayTree array, Void nothing) {
                check(4, false, "a method makes an array", array);
                return super.visitNewArray(array, nothing);
            }

            @Override
            public Void visitForLoop(ForLoopTree loop, Void nothing) {
                checkLoop(loop, ofObject);
                return super.visitForLoop(loop, nothing);
            }

            @Override
            public Void visitWhileLoop(WhileLoopTree loop, Void nothing) {
                check(8, false, "a loop that is not counted", loop);
                return super.visitWhileLoop(loop, nothing);
            }

            @Override
            public Void visitDoWhileLoop(DoWhileLoopTree loop, Void nothing) {
                check(8, false, "a loop that is not counted", loop);
                return super.visitDoWhileLoop(loop, nothing);
            }
        }.scan(method, null);
        return called;
    }

    /** Whether a method goes deeper than so many calls; one that comes back to itself goes deeper than any. */
    private static boolean isDeeper(Map<String, Set<String>> calls, String name, int most) {
        if (most == 0) {
            return true;
        }
        return calls.getOrDefault(name, Set.of()).stream().anyMatch(called -> isDeeper(calls, called, most - 1));
    }

    private static void checkMembers(ClassTree type) {
        Map<String, Set<String>> calls = new TreeMap<>();
        Set<String> ofObject = namesOfObject(type);
        int fields = 0;
        for (Tree member : type.getMembers()) {
            if (member instanceof VariableTree field) {
                checkField(field);
                fields += isConstant(field) ? 0 : 1;
            } else if (member instanceof MethodTree method) {
                // One name, one method: so no private one bears the name of a public one.
                check(1, calls.put(method.getName().toString(), checkMethod(method, ofObject)) == null, "a name twice", method.getName());
            } else {
                check(1, false, "no field and no method", member);
            }
        }
        check(10, fields <= 40, "more than forty fields", fields);
        for (String name : calls.keySet()) {
            check(10, !isDeeper(calls, name, 6), "calls more than six deep, or recursion (rule 8)", name);
        }
    }

    private static void checkLengths(CompilationUnitTree unit, ClassTree type, SourcePositions positions) {
        for (Tree member : type.getMembers()) {
            long first = unit.getLineMap().getLineNumber(positions.getStartPosition(unit, member));
            long last = unit.getLineMap().getLineNumber(positions.getEndPosition(unit, member));
            check(10, last - first < 60, "longer than sixty lines", member);
        }
    }

    public static void main(String[] args) throws IOException {
        JavaCompiler compiler = ToolProvider.getSystemJavaCompiler();
        try (StandardJavaFileManager files = compiler.getStandardFileManager(null, null, null)) {
            JavacTask task = (JavacTask) compiler.getTask(null, files, null, null, null, files.getJavaFileObjects(SOURCE));
            CompilationUnitTree unit = task.parse().iterator().next();
            check(1, unit.getPackage() == null, "a package line", SOURCE);
            check(3, unit.getImports().isEmpty(), "an import", unit.getImports());
            check(1, unit.getTypeDecls().size() == 1, "more than one class", SOURCE);
            ClassTree type = (ClassTree) unit.getTypeDecls().get(0);
            checkWords(type);
            checkMembers(type);
            checkLengths(unit, type, Trees.instance(task).getSourcePositions());
        }
        if (wrong != 0) {
            System.exit(1);
        }
    }
}
