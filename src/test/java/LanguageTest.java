import com.sun.source.tree.AssertTree;
import com.sun.source.tree.ClassTree;
import com.sun.source.tree.CompilationUnitTree;
import com.sun.source.tree.ExpressionTree;
import com.sun.source.tree.InstanceOfTree;
import com.sun.source.tree.LambdaExpressionTree;
import com.sun.source.tree.LiteralTree;
import com.sun.source.tree.MemberReferenceTree;
import com.sun.source.tree.MemberSelectTree;
import com.sun.source.tree.MethodInvocationTree;
import com.sun.source.tree.MethodTree;
import com.sun.source.tree.NewArrayTree;
import com.sun.source.tree.NewClassTree;
import com.sun.source.tree.SynchronizedTree;
import com.sun.source.tree.ThrowTree;
import com.sun.source.tree.Tree;
import com.sun.source.tree.TryTree;
import com.sun.source.tree.VariableTree;
import com.sun.source.util.JavacTask;
import com.sun.source.util.TreeScanner;
import com.sun.source.util.Trees;
import java.io.File;
import java.util.HashMap;
import java.util.HashSet;
import java.util.Map;
import java.util.Set;
import java.util.TreeSet;
import javax.lang.model.element.Modifier;
import javax.tools.JavaCompiler;
import javax.tools.StandardJavaFileManager;
import javax.tools.ToolProvider;

/** The rules of LANGUAGE.md that can be read off the program's text, and the document's public face. */
public final class LanguageTest {
    private static final Set<String> TYPES = Set.of("int", "long", "short", "byte", "char", "boolean", "void",
        "int[]", "long[]", "short[]", "byte[]", "char[]", "boolean[]");
    private static final HelpCheck check = new HelpCheck();
    private static final Map<String, Set<String>> calls = new HashMap<>();

    public static void main(String[] args) throws Exception {
        face();
        JavaCompiler compiler = ToolProvider.getSystemJavaCompiler();
        try (StandardJavaFileManager files = compiler.getStandardFileManager(null, null, null)) {
            File file = new File("src/main/java/LazyCompiler.java");
            JavacTask task = (JavacTask) compiler.getTask(null, files, null, null, null, files.getJavaFileObjects(file));
            CompilationUnitTree unit = task.parse().iterator().next();
            check.due("classes", 1, unit.getTypeDecls().size());
            check.due("imports", 0, unit.getImports().size());
            check.due("package", true, unit.getPackage() == null);
            look((ClassTree) unit.getTypeDecls().get(0), unit, task);
        }
        check.end();
    }

    private static void face() {
        check.part("the public face");
        Set<String> due = new TreeSet<>(Set.of("boolean cls(int,int,int,int)", "boolean slot(int,int,int)",
            "int code(int,int)", "boolean catcher(int,int,int)", "int make(int)", "int place()", "int wipe()",
            "int body(int,int)", "int map(int,int)"));
        due.addAll(Set.of("boolean initialiser(int,int)", "int run(int,int,int,int)", "long result()", "int origin()",
            "long look(int,int)", "boolean go(int,int)", "boolean set(int,int)", "int count(int)"));
        Set<String> there = new TreeSet<>();
        for (var m : LazyCompiler.class.getDeclaredMethods()) {
            if (java.lang.reflect.Modifier.isPrivate(m.getModifiers())) continue;
            there.add(m.toString().replaceAll("public |LazyCompiler\\.", ""));
        }
        check.due(there + " instead of " + due, true, there.equals(due));
        Set<String> constants = new TreeSet<>();
        for (var f : LazyCompiler.class.getDeclaredFields()) {
            if (!java.lang.reflect.Modifier.isPrivate(f.getModifiers())) constants.add(f.getType() + " " + f.getName());
        }
        check.due("" + constants, true, constants.equals(
            Set.of("int OK", "int THROWN", "int LONG", "int REFUSED", "long NOTHING")));
        check.due("constructors", 1, LazyCompiler.class.getConstructors().length);
        check.due("constructors", 1, LazyCompiler.class.getDeclaredConstructors().length);
    }

    private static void look(ClassTree type, CompilationUnitTree unit, JavacTask task) {
        check.part("the language");
        Set<String> names = new HashSet<>();
        int fields = 0;
        for (Tree member : type.getMembers()) {
            boolean known = member instanceof MethodTree || member instanceof VariableTree;
            check.due("rule 1: " + member.getKind(), true, known);
            if (member instanceof VariableTree && lookField((VariableTree) member)) fields++;
            if (member instanceof MethodTree) {
                MethodTree m = (MethodTree) member;
                check.due("rule 1: two methods " + m.getName(), true, names.add(m.getName().toString()));
                lookMethod(m, unit, task);
            }
        }
        check.due("rule 10: " + fields + " fields", true, fields <= 40);
        for (String name : calls.keySet()) {
            int depth = depth(name, 0);
            check.due("rules 8 and 10: calls from " + name + " go " + depth + " deep", true, depth <= 6);
        }
    }

    private static boolean lookField(VariableTree field) {
        Set<Modifier> is = field.getModifiers().getFlags();
        String name = field.getName().toString();
        check.due("rule 2: " + name, true, TYPES.contains(field.getType().toString()));
        boolean isStatic = is.contains(Modifier.STATIC);
        boolean constant = is.contains(Modifier.FINAL) && Set.of("int", "long").contains(field.getType().toString());
        check.due("rule 5: " + name, true, !isStatic || constant);
        if (field.getInitializer() instanceof NewArrayTree) {
            NewArrayTree made = (NewArrayTree) field.getInitializer();
            check.due("rule 4: " + name, 1, made.getDimensions().size());
            ExpressionTree length = made.getDimensions().get(0);
            boolean plain = length instanceof LiteralTree || length.toString().matches("[A-Z_]+");
            check.due("rule 4: " + name, true, plain && made.getInitializers() == null);
        }
        return !isStatic;
    }

    private static void lookMethod(MethodTree m, CompilationUnitTree unit, JavacTask task) {
        String name = m.getName().toString();
        var places = Trees.instance(task).getSourcePositions();
        long first = unit.getLineMap().getLineNumber(places.getStartPosition(unit, m));
        long last = unit.getLineMap().getLineNumber(places.getEndPosition(unit, m));
        check.due("rule 10: lines of " + name, true, last - first < 60);
        check.due("rule 10: parameters of " + name, true, m.getParameters().size() <= 7);
        if (m.getReturnType() != null) {
            String type = m.getReturnType().toString();
            check.due("rules 2 and 4: " + name, true, TYPES.contains(type) && !type.endsWith("]"));
        }
        Set<String> called = calls.computeIfAbsent(name, n -> new HashSet<>());
        m.accept(new Look(name, called), null);
    }

    private static int depth(String name, int above) {
        int most = 1;
        // A circle of calls would go deeper than any bound.
        if (above > 50) return 50;
        for (String other : calls.getOrDefault(name, Set.of())) most = Math.max(most, 1 + depth(other, above + 1));
        return most;
    }

    private static final class Look extends TreeScanner<Void, Void> {
        private final String name;
        private final Set<String> called;

        Look(String name, Set<String> called) {
            this.name = name;
            this.called = called;
        }

        private Void ruledOut(int rule, Tree what) {
            check.due("rule " + rule + ": " + what.getKind() + " in " + name, true, false);
            return null;
        }

        @Override public Void visitMethodInvocation(MethodInvocationTree call, Void v) {
            String other = call.getMethodSelect().toString();
            if (other.equals("super")) return null;
            called.add(other);
            Set<String> inside = new HashSet<>();
            for (ExpressionTree argument : call.getArguments()) argument.accept(new Look(name, inside), null);
            check.due("rule 10: a call inside the arguments of " + other + " in " + name, 0, inside.size());
            called.addAll(inside);
            return null;
        }

        @Override public Void visitVariable(VariableTree variable, Void v) {
            check.due("rule 2: " + variable + " in " + name, true, TYPES.contains(variable.getType().toString()));
            return super.visitVariable(variable, v);
        }

        @Override public Void visitMemberSelect(MemberSelectTree select, Void v) {
            return ruledOut(3, select);
        }

        @Override public Void visitNewArray(NewArrayTree made, Void v) {
            return ruledOut(4, made);
        }

        @Override public Void visitNewClass(NewClassTree made, Void v) {
            return ruledOut(4, made);
        }

        @Override public Void visitLiteral(LiteralTree literal, Void v) {
            Object value = literal.getValue();
            boolean plain = value instanceof Integer || value instanceof Long || value instanceof Boolean;
            return plain ? null : ruledOut(2, literal);
        }

        @Override public Void visitThrow(ThrowTree tree, Void v) {
            return ruledOut(6, tree);
        }

        @Override public Void visitTry(TryTree tree, Void v) {
            return ruledOut(6, tree);
        }

        @Override public Void visitSynchronized(SynchronizedTree tree, Void v) {
            return ruledOut(6, tree);
        }

        @Override public Void visitAssert(AssertTree tree, Void v) {
            return ruledOut(6, tree);
        }

        @Override public Void visitInstanceOf(InstanceOfTree tree, Void v) {
            return ruledOut(6, tree);
        }

        @Override public Void visitLambdaExpression(LambdaExpressionTree tree, Void v) {
            return ruledOut(6, tree);
        }

        @Override public Void visitMemberReference(MemberReferenceTree tree, Void v) {
            return ruledOut(6, tree);
        }
    }
}
