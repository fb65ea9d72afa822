import com.sun.source.tree.*;
import com.sun.source.util.JavacTask;
import com.sun.source.util.SourcePositions;
import com.sun.source.util.TreePathScanner;
import com.sun.source.util.Trees;
import java.io.IOException;
import java.nio.file.Path;
import java.util.HashMap;
import java.util.HashSet;
import java.util.List;
import java.util.Map;
import java.util.Set;
import java.util.TreeSet;
import javax.lang.model.element.Element;
import javax.lang.model.element.ElementKind;
import javax.lang.model.element.Modifier;
import javax.lang.model.type.ArrayType;
import javax.lang.model.type.DeclaredType;
import javax.lang.model.type.TypeKind;
import javax.lang.model.type.TypeMirror;
import javax.tools.JavaCompiler;
import javax.tools.StandardJavaFileManager;
import javax.tools.ToolProvider;

/**
 * The class as javac reads it, held against LANGUAGE.md rule by rule. It is stricter than the rules where the class
 * needs less than they leave: what is not listed here is new to the class, and to be read against the rules first.
 */
public final class TreeTest {
    private static final Report REPORT = new Report();
    private static final Set<String> LIBRARY = Set.of("Long.bitCount", "Long.numberOfTrailingZeros",
            "Long.highestOneBit", "Integer.bitCount", "Integer.numberOfTrailingZeros", "Math.min");
    private static final Set<String> TYPES = Set.of("int", "long", "boolean", "void", "int[]", "long[]");
    private static final Set<String> EXCEPTIONS = Set.of("IllegalStateException", "IllegalArgumentException",
            "IndexOutOfBoundsException");
    /** The methods that look at an index or a divisor themselves, and what calls itself under a guard. */
    private static final Set<String> INDEXING = Set.of("bitsOf", "keepSet", "at", "lay");
    private static final Set<String> DIVIDING = Set.of("rest", "share");
    private static final Set<String> RECURSIVE = Set.of("branch", "give");
    /** Kinds of the tree that the rules leave no use for in this class, or that it needs none of. */
    private static final Set<Tree.Kind> RULED_OUT = Set.of(Tree.Kind.LAMBDA_EXPRESSION, Tree.Kind.MEMBER_REFERENCE,
            Tree.Kind.TRY, Tree.Kind.SYNCHRONIZED, Tree.Kind.ASSERT, Tree.Kind.INSTANCE_OF, Tree.Kind.IMPORT,
            Tree.Kind.PACKAGE, Tree.Kind.ENHANCED_FOR_LOOP, Tree.Kind.WHILE_LOOP, Tree.Kind.DO_WHILE_LOOP,
            Tree.Kind.ENUM, Tree.Kind.INTERFACE, Tree.Kind.ANNOTATION_TYPE, Tree.Kind.ANNOTATION,
            Tree.Kind.NULL_LITERAL, Tree.Kind.DOUBLE_LITERAL, Tree.Kind.FLOAT_LITERAL, Tree.Kind.DIVIDE_ASSIGNMENT,
            Tree.Kind.REMAINDER_ASSIGNMENT, Tree.Kind.LABELED_STATEMENT);

    public static void main(String[] args) throws IOException {
        JavaCompiler compiler = ToolProvider.getSystemJavaCompiler();
        try (StandardJavaFileManager files = compiler.getStandardFileManager(null, null, null)) {
            JavacTask task = (JavacTask) compiler.getTask(null, files, null, List.of("--release", "17"), null,
                    files.getJavaFileObjects(Path.of(args[0])));
            CompilationUnitTree unit = task.parse().iterator().next();
            task.analyze();
            Reader reader = new Reader(Trees.instance(task), unit);
            reader.scan(unit, null);
            reader.holdCalls();
        }
        REPORT.end("TreeTest");
    }

    private static void due(String what, Object want, Object got) {
        REPORT.due(what, want, () -> got);
    }

    /** Goes through the tree, holds each part against the rules, and notes which method calls which. */
    private static final class Reader extends TreePathScanner<Void, Void> {
        private final Trees trees;
        private final SourcePositions positions;
        private final CompilationUnitTree unit;
        private final Map<Element, Set<Element>> calls = new HashMap<>();
        private final Set<String> dividing = new TreeSet<>();
        private final Set<String> indexing = new TreeSet<>();
        private int classes = 0;

        Reader(Trees trees, CompilationUnitTree unit) {
            this.trees = trees;
            this.unit = unit;
            positions = trees.getSourcePositions();
        }

        @Override
        public Void scan(Tree tree, Void unused) {
            if (tree != null && RULED_OUT.contains(tree.getKind())) {
                due("at line " + line(tree) + " stands " + tree.getKind(), false, true);
            }
            return super.scan(tree, unused);
        }

        private long line(Tree tree) {
            return unit.getLineMap().getLineNumber(positions.getStartPosition(unit, tree));
        }

        private Element element() {
            return trees.getElement(getCurrentPath());
        }

        /** The method or constructor round the place, or null in what a field begins with. */
        private Element enclosing() {
            for (Tree around : getCurrentPath()) {
                if (around instanceof MethodTree) {
                    return trees.getElement(trees.getPath(unit, around));
                }
            }
            return null;
        }

        private static String nameOf(Element element) {
            return element == null ? "a field" : element.getSimpleName().toString();
        }

        private static boolean isOwn(Element element) {
            Element outer = element;
            while (outer.getEnclosingElement().getKind() != ElementKind.PACKAGE) {
                outer = outer.getEnclosingElement();
            }
            return outer.getSimpleName().contentEquals("Sumsetry");
        }

        /** Rules 1, 2, 11: classes inside are static and private; how many, with how many fields. */
        @Override
        public Void visitClass(ClassTree tree, Void unused) {
            Element one = element();
            classes++;
            int fields = 0;
            for (Tree member : tree.getMembers()) {
                boolean isField = member instanceof VariableTree
                        && !((VariableTree) member).getModifiers().getFlags().contains(Modifier.STATIC);
                fields += isField ? 1 : 0;
            }
            due(nameOf(one) + " has at most twenty fields", true, fields <= 20);
            due(nameOf(one) + " is final", true, one.getModifiers().contains(Modifier.FINAL));
            if (one.getEnclosingElement().getKind() != ElementKind.PACKAGE) {
                due(nameOf(one) + " stands in the class", "Sumsetry", nameOf(one.getEnclosingElement()));
                due(nameOf(one) + " is private and static", true,
                        one.getModifiers().containsAll(Set.of(Modifier.PRIVATE, Modifier.STATIC)));
            }
            return super.visitClass(tree, unused);
        }

        /** Rule 11: at most seven parameters and some sixty lines. */
        @Override
        public Void visitMethod(MethodTree tree, Void unused) {
            Element one = element();
            calls.putIfAbsent(one, new HashSet<>());
            long lines = unit.getLineMap().getLineNumber(positions.getEndPosition(unit, tree)) - line(tree) + 1;
            due(nameOf(one) + " is short", true, lines <= 60);
            due(nameOf(one) + " takes at most seven", true, tree.getParameters().size() <= 7);
            if (tree.getReturnType() != null) {
                typeDue(nameOf(one), trees.getTypeMirror(trees.getPath(unit, tree.getReturnType())));
            }
            return super.visitMethod(tree, unused);
        }

        /** Rules 3, 5: types, and static fields that are final constants. */
        @Override
        public Void visitVariable(VariableTree tree, Void unused) {
            Element one = element();
            typeDue(nameOf(one), one.asType());
            if (one.getModifiers().contains(Modifier.STATIC)) {
                due(nameOf(one) + " is a constant", true, one.getModifiers().contains(Modifier.FINAL)
                        && one.asType().getKind().isPrimitive());
            }
            if (one.asType() instanceof ArrayType && one.getKind() == ElementKind.FIELD) {
                due(nameOf(one) + " is made once", true, one.getModifiers().contains(Modifier.FINAL));
            }
            return super.visitVariable(tree, unused);
        }

        private static void typeDue(String name, TypeMirror type) {
            boolean isOwn = type instanceof DeclaredType && isOwn(((DeclaredType) type).asElement());
            due("the type of " + name + ": " + type, true, isOwn || TYPES.contains(type.toString()));
        }

        /** Rule 4: the library's calls. Own calls are noted. */
        @Override
        public Void visitMethodInvocation(MethodInvocationTree tree, Void unused) {
            Element called = element();
            if (isOwn(called)) {
                calls.computeIfAbsent(enclosing(), key -> new HashSet<>()).add(called);
            } else if (called.getKind() != ElementKind.CONSTRUCTOR) {
                String name = nameOf(called.getEnclosingElement()) + "." + nameOf(called);
                due("the library's " + name, true, LIBRARY.contains(name));
            }
            return super.visitMethodInvocation(tree, unused);
        }

        /** Rules 6, 12: objects of the class are made by constructors alone, exceptions where they are thrown. */
        @Override
        public Void visitNewClass(NewClassTree tree, Void unused) {
            Element made = element();
            due("no class without a name", true, tree.getClassBody() == null);
            if (isOwn(made)) {
                Element maker = enclosing();
                calls.computeIfAbsent(maker, key -> new HashSet<>()).add(made);
                due("made at line " + line(tree) + ", by a constructor", true, isMaking(maker));
            } else {
                due("made at line " + line(tree) + ", to be thrown", Tree.Kind.THROW,
                        getCurrentPath().getParentPath().getLeaf().getKind());
            }
            return super.visitNewClass(tree, unused);
        }

        private static boolean isMaking(Element maker) {
            return maker == null || maker.getKind() == ElementKind.CONSTRUCTOR;
        }

        @Override
        public Void visitThrow(ThrowTree tree, Void unused) {
            boolean isNew = tree.getExpression() instanceof NewClassTree;
            due("thrown anew at line " + line(tree), true, isNew);
            due("not in a constructor, line " + line(tree), false, isMaking(enclosing()));
            if (isNew) {
                NewClassTree made = (NewClassTree) tree.getExpression();
                due("thrown at line " + line(tree), true, EXCEPTIONS.contains(made.getIdentifier().toString()));
                for (ExpressionTree text : made.getArguments()) {
                    due("a written text at line " + line(tree), Tree.Kind.STRING_LITERAL, text.getKind());
                }
            }
            return super.visitThrow(tree, unused);
        }

        /** Rule 12: rows are made with the object; their lengths are constants, and so never below 0. */
        @Override
        public Void visitNewArray(NewArrayTree tree, Void unused) {
            due("a row made at line " + line(tree) + " by a constructor", true, isMaking(enclosing()));
            due("of one dimension", 1, tree.getDimensions().size());
            return super.visitNewArray(tree, unused);
        }

        /** Rule 7: only these methods read and write rows, and divide; each of them looks first. */
        @Override
        public Void visitArrayAccess(ArrayAccessTree tree, Void unused) {
            indexing.add(nameOf(enclosing()));
            return super.visitArrayAccess(tree, unused);
        }

        @Override
        public Void visitBinary(BinaryTree tree, Void unused) {
            boolean divides = tree.getKind() == Tree.Kind.DIVIDE || tree.getKind() == Tree.Kind.REMAINDER;
            if (divides && !(tree.getRightOperand() instanceof LiteralTree)) {
                dividing.add(nameOf(enclosing()));
            }
            due("no text joined by + at line " + line(tree), false,
                    trees.getTypeMirror(getCurrentPath()).getKind() == TypeKind.DECLARED);
            return super.visitBinary(tree, unused);
        }

        /** Rule 9: a counter that the head alone changes, by one, and compares with a bound. */
        @Override
        public Void visitForLoop(ForLoopTree tree, Void unused) {
            String loop = "the loop at line " + line(tree);
            due(loop + " has one counter", 1, tree.getInitializer().size());
            due(loop + " has one step", 1, tree.getUpdate().size());
            String counter = ((VariableTree) tree.getInitializer().get(0)).getName().toString();
            String step = tree.getUpdate().get(0).toString();
            due(loop + " goes by one", true, step.equals(counter + "++;") || step.equals(counter + "--;"));
            String end = step.equals(counter + "++;") ? "<=?" : ">";
            due(loop + " ends at a bound", true,
                    tree.getCondition().toString().matches("(.*[( ])?" + counter + " " + end + " [\\w.()]+( && .*)?"));
            due(loop + " is bound by more than by ||", false, tree.getCondition().toString().contains("||"));
            new TreePathScanner<Void, Void>() {
                @Override
                public Void visitAssignment(AssignmentTree inside, Void none) {
                    due(loop + " keeps its counter", false, inside.getVariable().toString().equals(counter));
                    return super.visitAssignment(inside, none);
                }

                @Override
                public Void visitCompoundAssignment(CompoundAssignmentTree inside, Void none) {
                    due(loop + " keeps its counter", false, inside.getVariable().toString().equals(counter));
                    return super.visitCompoundAssignment(inside, none);
                }

                @Override
                public Void visitUnary(UnaryTree inside, Void none) {
                    due(loop + " keeps its counter", false, inside.getExpression().toString().equals(counter)
                            && inside.getKind() != Tree.Kind.UNARY_MINUS);
                    return super.visitUnary(inside, none);
                }
            }.scan(trees.getPath(unit, tree.getStatement()), null);
            return super.visitForLoop(tree, unused);
        }

        @Override
        public Void visitTypeCast(TypeCastTree tree, Void unused) {
            due("a cast to a number at line " + line(tree), true,
                    trees.getTypeMirror(getCurrentPath()).getKind().isPrimitive());
            return super.visitTypeCast(tree, unused);
        }

        @Override
        public Void visitLiteral(LiteralTree tree, Void unused) {
            due("signs of " + tree, true, !(tree.getValue() instanceof String)
                    || tree.getValue().toString().matches("[\\x01-\\x7f]*"));
            return super.visitLiteral(tree, unused);
        }

        /** Rules 1, 7, 8, 11: names, guards, what calls itself, and how deep calls go. */
        void holdCalls() {
            due("at most twelve classes", true, classes <= 12);
            due("what reads and writes rows", new TreeSet<>(INDEXING), indexing);
            due("what divides", new TreeSet<>(DIVIDING), dividing);
            Set<String> publicNames = new HashSet<>();
            Set<String> recursive = new TreeSet<>();
            for (Element one : calls.keySet()) {
                if (one != null && one.getModifiers().contains(Modifier.PUBLIC)) {
                    publicNames.add(nameOf(one));
                }
                if (one != null && isReached(one, one, new HashSet<>())) {
                    recursive.add(nameOf(one));
                    due(nameOf(one) + " calls itself: private and static", true,
                            one.getModifiers().containsAll(Set.of(Modifier.PRIVATE, Modifier.STATIC)));
                }
            }
            due("what calls itself", new TreeSet<>(RECURSIVE), recursive);
            for (Element one : calls.keySet()) {
                if (one == null) {
                    continue;
                }
                boolean isInner = one.getKind() == ElementKind.METHOD && !one.getModifiers().contains(Modifier.PUBLIC);
                due("the name " + nameOf(one), false, isInner && publicNames.contains(nameOf(one)));
                due("calls under " + nameOf(one) + ", deep: " + depth(one), true, depth(one) <= 8);
            }
        }

        private boolean isReached(Element from, Element sought, Set<Element> seen) {
            for (Element called : calls.getOrDefault(from, Set.of())) {
                if (called.equals(sought) || seen.add(called) && isReached(called, sought, seen)) {
                    return true;
                }
            }
            return false;
        }

        /** How many methods stand open at once, at most, what calls itself counted once. */
        private int depth(Element from) {
            int deepest = 0;
            for (Element called : calls.getOrDefault(from, Set.of())) {
                deepest = called.equals(from) ? deepest : Math.max(deepest, depth(called));
            }
            return deepest + 1;
        }
    }
}
