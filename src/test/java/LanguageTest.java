import com.sun.source.tree.AssignmentTree;
import com.sun.source.tree.BinaryTree;
import com.sun.source.tree.BlockTree;
import com.sun.source.tree.ClassTree;
import com.sun.source.tree.CompoundAssignmentTree;
import com.sun.source.tree.ExpressionTree;
import com.sun.source.tree.ForLoopTree;
import com.sun.source.tree.MemberSelectTree;
import com.sun.source.tree.MethodInvocationTree;
import com.sun.source.tree.MethodTree;
import com.sun.source.tree.NewArrayTree;
import com.sun.source.tree.PrimitiveTypeTree;
import com.sun.source.tree.Tree;
import com.sun.source.tree.Tree.Kind;
import com.sun.source.tree.TypeCastTree;
import com.sun.source.tree.UnaryTree;
import com.sun.source.tree.VariableTree;
import com.sun.source.util.TreePath;
import java.io.IOException;
import java.util.ArrayList;
import java.util.List;
import java.util.Set;
import javax.lang.model.element.Element;
import javax.lang.model.element.Modifier;
import javax.lang.model.element.VariableElement;
import javax.lang.model.type.ArrayType;
import javax.lang.model.type.TypeKind;
import javax.lang.model.type.TypeMirror;

/**
 * The rules of LANGUAGE.md that the class's source shows. FaceTest has the public face, for rule 1.
 * Three tests ask for more than their rule, where the class has no need of what the rule leaves: arrays are made
 * in fields alone, no variable changes to another array, and every loop is a for that counts up to a constant.
 */
public final class LanguageTest {
    private static final Set<TypeKind> NUMBERS = Set.of(TypeKind.INT, TypeKind.LONG, TypeKind.SHORT, TypeKind.BYTE,
            TypeKind.CHAR, TypeKind.BOOLEAN);
    private static final Kind[] LOOPS = {Kind.FOR_LOOP, Kind.WHILE_LOOP, Kind.DO_WHILE_LOOP, Kind.ENHANCED_FOR_LOOP};
    private static final Set<Kind> STEPS = Set.of(Kind.POSTFIX_INCREMENT, Kind.PREFIX_INCREMENT,
            Kind.POSTFIX_DECREMENT, Kind.PREFIX_DECREMENT);
    private static final int MOST_PARAMETERS = 7;
    private static final int MOST_LINES = 60;
    private static final int MOST_DEPTH = 6;
    private static final int MOST_FIELDS = 40;

    private final Source source;

    private LanguageTest(Source source) {
        this.source = source;
    }

    public static void main(String[] args) throws IOException {
        LanguageTest test = new LanguageTest(new Source("src/main/java/CabacResidual.java"));
        test.classAndTypes();
        test.arrays();
        test.statements();
        test.sizes();
        Due.end("LanguageTest");
    }

    private void classAndTypes() {
        Sentence.holds("rule 1", "One class", this::oneClass);
        Sentence.holds("rule 2", "int, long, short, byte, char, boolean, and one-dimensional arrays of these",
                this::declaredTypes);
        Sentence.holds("rule 2", "No float or double.", this::noFractions);
        Sentence.holds("rule 2", "No String, no object of any other class.",
                () -> none(Kind.STRING_LITERAL, Kind.NEW_CLASS));
        Sentence.holds("rule 3", "No class of the Java library", this::noOutsideName);
        Sentence.holds("rule 3", "nothing is imported", () -> none(Kind.IMPORT));
        Sentence.holds("rule 3", "none of Object's methods is called", this::onlyOwnMethodsAreCalled);
    }

    private void arrays() {
        Sentence.holds("rule 4", "Arrays are made in a field's initialiser [..] with a length, 1 or more",
                this::arraysAreMadeInFields);
        Sentence.holds("rule 4", "An array is never answered by a method", this::noArrayIsAnswered);
        Sentence.holds("rule 4", "never compared with another one", this::noArrayIsCompared);
        Sentence.holds("rule 4", "null isn't used at all", () -> none(Kind.NULL_LITERAL));
        Sentence.holds("rule 4", "no method assigns to an array field", this::noArrayIsAssigned);
        Sentence.holds("rule 4", "The constructor [..] calls a private method that isn't static, and hands it no array",
                this::constructorHandsOverNoArray);
        Sentence.holds("rule 5", "Static fields are compile-time constants of int or long alone.",
                this::staticFieldsAreConstants);
        Sentence.holds("rule 5", "no static initialiser", this::noStaticBlock);
    }

    private void statements() {
        Sentence.holds("rule 6", "No throw, try, catch, synchronized, assert, instanceof, lambda, method reference",
                this::noForbiddenStatement);
        Sentence.holds("rule 6", "No [..] cast of a reference", this::castsOfNumbersOnly);
        Sentence.holds("rule 8", "No recursion", this::callsComeToAnEnd);
        Sentence.holds("rule 8", "Every loop has an end that can be seen from its own lines", this::everyLoopCounts);
    }

    private void sizes() {
        Sentence.holds("rule 10", "A method takes at most seven parameters", this::fewParameters);
        Sentence.holds("rule 10", "no call stands inside the arguments of another call", this::noCallInArguments);
        Sentence.holds("rule 10", "Methods stay short (some sixty lines)", this::shortMethods);
        Sentence.holds("rule 10", "calls go at most six deep", this::shallowCalls);
        Sentence.holds("rule 10", "at most some forty fields beside its constants", this::fewFields);
    }

    private void none(Kind... kinds) {
        source.of(kinds).forEach(piece -> Due.never(source.at(piece.getLeaf())));
    }

    private void oneClass() {
        Due.is("the file has no package line", source.unit.getPackage() == null, true);
        Due.is("classes in the file", source.of(Kind.CLASS).size(), 1);
        none(Kind.INTERFACE, Kind.ENUM, Kind.RECORD, Kind.ANNOTATION_TYPE);
        ClassTree only = (ClassTree) source.unit.getTypeDecls().get(0);
        Due.is("what it extends or implements", only.getExtendsClause() == null && only.getImplementsClause().isEmpty(),
                true);
    }

    private void declaredTypes() {
        for (TreePath piece : source.of(Kind.VARIABLE)) {
            dueNumberOrArray(piece.getLeaf(), source.meaning(piece).asType());
        }
        for (MethodTree method : source.methods()) {
            if (!isConstructor(method) && source.type(method.getReturnType()).getKind() != TypeKind.VOID) {
                dueNumberOrArray(method, source.type(method.getReturnType()));
            }
        }
    }

    private void dueNumberOrArray(Tree tree, TypeMirror type) {
        TypeMirror single = type.getKind() == TypeKind.ARRAY ? ((ArrayType) type).getComponentType() : type;
        if (!NUMBERS.contains(single.getKind())) {
            Due.never(source.at(tree));
        }
    }

    private void noFractions() {
        none(Kind.FLOAT_LITERAL, Kind.DOUBLE_LITERAL);
        for (TreePath piece : source.of(Kind.PRIMITIVE_TYPE)) {
            TypeKind kind = ((PrimitiveTypeTree) piece.getLeaf()).getPrimitiveTypeKind();
            Due.is(source.at(piece.getLeaf()), kind == TypeKind.FLOAT || kind == TypeKind.DOUBLE, false);
        }
    }

    /** Without a dot but for this.name and array.length, and without an import, a name can only be one of java.lang. */
    private void noOutsideName() {
        for (TreePath piece : source.of(Kind.MEMBER_SELECT)) {
            MemberSelectTree select = (MemberSelectTree) piece.getLeaf();
            boolean own = select.getExpression().toString().equals("this");
            boolean length = source.isArray(select.getExpression()) && select.getIdentifier().contentEquals("length");
            Due.is(source.at(select), own || length, true);
        }
        for (TreePath piece : source.of(Kind.IDENTIFIER)) {
            Element meaning = source.meaning(piece);
            boolean isType = meaning.getKind().isClass() || meaning.getKind().isInterface();
            Due.is(source.at(piece.getLeaf()) + " names a class", isType, false);
        }
        none(Kind.ANNOTATION);
    }

    private void onlyOwnMethodsAreCalled() {
        Element own = source.meaningOf(source.unit.getTypeDecls().get(0));
        for (TreePath call : source.of(Kind.METHOD_INVOCATION)) {
            Due.is(source.at(call.getLeaf()) + " calls an own method",
                    source.called(call).getEnclosingElement().equals(own), true);
        }
    }

    private void arraysAreMadeInFields() {
        for (TreePath piece : source.of(Kind.NEW_ARRAY)) {
            NewArrayTree array = (NewArrayTree) piece.getLeaf();
            Due.is(source.at(array) + " in a field", Source.isField(piece.getParentPath()), true);
            boolean hasLength = array.getInitializers() == null && array.getDimensions().size() == 1;
            Due.is(source.at(array) + " has one length", hasLength, true);
            if (hasLength) {
                Due.is(source.at(array) + " has a fixed length", isOneOrMore(array.getDimensions().get(0)), true);
            }
        }
    }

    private boolean isOneOrMore(ExpressionTree length) {
        if (length.getKind() == Kind.INT_LITERAL) {
            return Integer.parseInt(length.toString()) >= 1;
        }
        return source.meaningOf(length) instanceof VariableElement name
                && name.getConstantValue() instanceof Integer value && value >= 1;
    }

    private void noArrayIsAnswered() {
        for (MethodTree method : source.methods()) {
            if (!isConstructor(method)) {
                Due.is(source.at(method) + " answers an array", source.isArray(method.getReturnType()), false);
            }
        }
    }

    private void noArrayIsCompared() {
        for (TreePath piece : source.of(Kind.EQUAL_TO, Kind.NOT_EQUAL_TO)) {
            BinaryTree compared = (BinaryTree) piece.getLeaf();
            boolean arrays = source.isArray(compared.getLeftOperand()) || source.isArray(compared.getRightOperand());
            Due.is(source.at(compared) + " compares an array", arrays, false);
        }
    }

    private void noArrayIsAssigned() {
        for (TreePath piece : source.of(Kind.ASSIGNMENT)) {
            Due.is(source.at(piece.getLeaf()) + " assigns an array",
                    source.isArray(((AssignmentTree) piece.getLeaf()).getVariable()), false);
        }
    }

    private void constructorHandsOverNoArray() {
        for (MethodTree method : source.methods()) {
            if (isConstructor(method)) {
                source.inside(method, Kind.METHOD_INVOCATION).forEach(this::dueStaticOrWithoutArray);
            }
        }
    }

    private void dueStaticOrWithoutArray(TreePath call) {
        boolean isStatic = source.called(call).getModifiers().contains(Modifier.STATIC);
        for (ExpressionTree argument : ((MethodInvocationTree) call.getLeaf()).getArguments()) {
            Due.is(source.at(call.getLeaf()) + " hands over an array", !isStatic && source.isArray(argument), false);
        }
    }

    private void staticFieldsAreConstants() {
        for (TreePath piece : source.fields()) {
            VariableElement field = (VariableElement) source.meaning(piece);
            if (field.getModifiers().contains(Modifier.STATIC)) {
                Object value = field.getConstantValue();
                Due.is(source.at(piece.getLeaf()), value instanceof Integer || value instanceof Long, true);
            }
        }
    }

    private void noStaticBlock() {
        for (TreePath piece : source.of(Kind.BLOCK)) {
            Due.is(source.at(piece.getLeaf()) + " is static", ((BlockTree) piece.getLeaf()).isStatic(), false);
        }
    }

    private void noForbiddenStatement() {
        none(Kind.THROW, Kind.TRY, Kind.CATCH, Kind.SYNCHRONIZED, Kind.ASSERT, Kind.INSTANCE_OF,
                Kind.LAMBDA_EXPRESSION, Kind.MEMBER_REFERENCE);
        for (MethodTree method : source.methods()) {
            Set<Modifier> modifiers = method.getModifiers().getFlags();
            Due.is(source.at(method) + " is synchronized", modifiers.contains(Modifier.SYNCHRONIZED), false);
        }
    }

    private void castsOfNumbersOnly() {
        for (TreePath piece : source.of(Kind.TYPE_CAST)) {
            Due.is(source.at(piece.getLeaf()),
                    ((TypeCastTree) piece.getLeaf()).getType().getKind() == Kind.PRIMITIVE_TYPE, true);
        }
    }

    private void callsComeToAnEnd() {
        source.methods().forEach(method -> depth(method, new ArrayList<>()));
    }

    private void shallowCalls() {
        for (MethodTree method : source.methods()) {
            Due.is(source.at(method) + " calls too deep", depth(method, new ArrayList<>()) > MOST_DEPTH, false);
        }
    }

    /** How many methods are under way at once at the most, this one among them. */
    private int depth(MethodTree method, List<MethodTree> callers) {
        if (callers.contains(method)) {
            Due.never(source.at(method) + " comes back to itself");
            return 0;
        }
        List<MethodTree> here = new ArrayList<>(callers);
        here.add(method);
        int deepest = 0;
        for (TreePath call : source.inside(method, Kind.METHOD_INVOCATION)) {
            for (MethodTree callee : source.methods()) {
                if (source.meaningOf(callee).equals(source.called(call))) {
                    deepest = Math.max(deepest, depth(callee, here));
                }
            }
        }
        return deepest + 1;
    }

    private void everyLoopCounts() {
        for (TreePath piece : source.of(LOOPS)) {
            Tree loop = piece.getLeaf();
            Due.is(source.at(loop) + " counts to a constant",
                    loop instanceof ForLoopTree counted && countsToAConstant(counted), true);
        }
    }

    private boolean countsToAConstant(ForLoopTree loop) {
        if (loop.getInitializer().size() != 1 || loop.getUpdate().size() != 1
                || !(loop.getInitializer().get(0) instanceof VariableTree counter)
                || !(loop.getCondition() instanceof BinaryTree condition)) {
            return false;
        }
        String name = counter.getName().toString();
        boolean bounded = condition.getKind() == Kind.LESS_THAN
                && condition.getLeftOperand().toString().equals(name) && isOneOrMore(condition.getRightOperand());
        boolean counts = loop.getUpdate().get(0).toString().equals(name + "++;");
        return bounded && counts && !isChangedIn(loop.getStatement(), name);
    }

    private boolean isChangedIn(Tree body, String name) {
        for (TreePath piece : source.all()) {
            if (Source.isInside(piece, body) && changed(piece.getLeaf()).equals(name)) {
                return true;
            }
        }
        return false;
    }

    private static String changed(Tree tree) {
        if (tree instanceof AssignmentTree plain) {
            return plain.getVariable().toString();
        }
        if (tree instanceof CompoundAssignmentTree compound) {
            return compound.getVariable().toString();
        }
        return STEPS.contains(tree.getKind()) ? ((UnaryTree) tree).getExpression().toString() : "";
    }

    private void fewParameters() {
        for (MethodTree method : source.methods()) {
            Due.is(source.at(method) + " takes too many", method.getParameters().size() > MOST_PARAMETERS, false);
        }
    }

    private void noCallInArguments() {
        for (TreePath piece : source.of(Kind.METHOD_INVOCATION)) {
            for (ExpressionTree argument : ((MethodInvocationTree) piece.getLeaf()).getArguments()) {
                boolean calls = argument.getKind() == Kind.METHOD_INVOCATION
                        || !source.inside(argument, Kind.METHOD_INVOCATION).isEmpty();
                Due.is(source.at(piece.getLeaf()) + " has a call in its arguments", calls, false);
            }
        }
    }

    private void shortMethods() {
        for (MethodTree method : source.methods()) {
            long lines = source.lastLine(method) - source.firstLine(method) + 1;
            Due.is(source.at(method) + " is too long", lines > MOST_LINES, false);
        }
    }

    private void fewFields() {
        long fields = source.fields().stream()
                .filter(piece -> !source.meaning(piece).getModifiers().contains(Modifier.STATIC)).count();
        Due.is("too many fields", fields > MOST_FIELDS, false);
    }

    private static boolean isConstructor(MethodTree method) {
        return method.getReturnType() == null;
    }
}
