import com.sun.source.tree.ClassTree;
import com.sun.source.tree.IdentifierTree;
import com.sun.source.tree.MethodTree;
import com.sun.source.tree.Tree;
import com.sun.source.util.JavacTask;
import com.sun.source.util.TreeScanner;
import java.io.File;
import java.lang.reflect.Field;
import java.util.ArrayDeque;
import java.util.Arrays;
import java.util.Deque;
import java.util.HashMap;
import java.util.HashSet;
import java.util.Map;
import java.util.Set;
import javax.tools.JavaCompiler;
import javax.tools.StandardJavaFileManager;
import javax.tools.ToolProvider;

/**
 * The document's first line, "CODE" and "LINKS", as far as no answer tells of them: nothing but the turning into code
 * reads the instructions of a body, code is there from the first call on, and a CALL that is linked is another code.
 * This test alone looks inside, at the fields ops, operands and codeOps.
 */
public final class CodeTest implements HelpOps {
    private static final int NO_CODE = 0;
    private static final HelpCheck check = new HelpCheck();
    private static final Map<String, Set<String>> named = new HashMap<>();

    public static void main(String[] args) throws Exception {
        readNames();
        noInterpreter();
        turnedWhenFirstCalled();
        turnedThoughNoRoom();
        turnedOncePerBody();
        linkedCalls();
        check.end();
    }

    private static void readNames() throws Exception {
        JavaCompiler compiler = ToolProvider.getSystemJavaCompiler();
        try (StandardJavaFileManager files = compiler.getStandardFileManager(null, null, null)) {
            File file = new File("src/main/java/LazyCompiler.java");
            JavacTask task = (JavacTask) compiler.getTask(null, files, null, null, null, files.getJavaFileObjects(file));
            ClassTree type = (ClassTree) task.parse().iterator().next().getTypeDecls().get(0);
            for (Tree member : type.getMembers()) {
                if (member instanceof MethodTree) readNamesOf((MethodTree) member);
            }
        }
    }

    private static void readNamesOf(MethodTree method) {
        Set<String> names = new HashSet<>();
        method.accept(new TreeScanner<Void, Void>() {
            @Override public Void visitIdentifier(IdentifierTree name, Void v) {
                names.add(name.getName().toString());
                return null;
            }
        }, null);
        named.put(method.getName().toString(), names);
    }

    /** The methods that one leads to, without going through another one. */
    private static Set<String> reachedFrom(String first, String without) {
        Set<String> reached = new HashSet<>(Set.of(first));
        Deque<String> open = new ArrayDeque<>(reached);
        while (!open.isEmpty()) {
            for (String name : named.get(open.pop())) {
                if (named.containsKey(name) && !name.equals(without) && reached.add(name)) open.push(name);
            }
        }
        return reached;
    }

    private static void noInterpreter() {
        check.part("a machine that has no interpreter");
        check.due("turnIntoCode is there", true, named.containsKey("turnIntoCode"));
        check.due("run turns into code", true, reachedFrom("run", "").contains("turnIntoCode"));
        check.due("make turns into code", false, reachedFrom("make", "").contains("turnIntoCode"));
        for (String method : reachedFrom("run", "turnIntoCode")) {
            check.due(method + " reads ops", false, named.get(method).contains("ops"));
            check.due(method + " reads operands", false, named.get(method).contains("operands"));
        }
    }

    private static int[] code(LazyCompiler x, int m) throws Exception {
        Field field = LazyCompiler.class.getDeclaredField("codeOps");
        field.setAccessible(true);
        int[] all = (int[]) field.get(x);
        return Arrays.copyOfRange(all, m * 24, m * 24 + 24);
    }

    private static void noCode(LazyCompiler x, int m) throws Exception {
        for (int op : code(x, m)) check.due("code of method " + m, NO_CODE, op);
    }

    private static void hasCode(LazyCompiler x, int m, int length) throws Exception {
        int[] code = code(x, m);
        for (int at = 0; at < 24; at++) {
            check.due("code of method " + m + " at " + at, at < length, code[at] != NO_CODE);
        }
    }

    private static void turnedWhenFirstCalled() throws Exception {
        check.part("a body is turned into code when it is to be called for the first time");
        LazyCompiler x = new LazyCompiler();
        check.due("cls", true, x.cls(0, -1, 0, 0));
        check.due("initialiser", true, x.initialiser(0, 1));
        check.due("slot", true, x.slot(0, 0, 2));
        check.made(x, 0, NEW, 0, LOAD, 0, SEND, 0, GIVE, 0);
        check.made(x, 1, LOAD, 0, GIVE, 0);
        check.made(x, 2, NULL, 0, NULL, 0, CALL, 7, GIVE, 0);
        check.made(x, 7, INT, 9, GIVE, 0, NULL, 0);
        check.made(x, 3, LOAD, 1, GIVE, 0);
        check.made(x, 6, NULL, 0, DUP, 0, POP, 0, GIVE, 0);
        check.due("run(0, 4, 0, 1)", LazyCompiler.REFUSED, x.run(0, 4, 0, 1));
        for (int m = 0; m < 8; m++) noCode(x, m);
        check.gives(x, 0, 0, 0, 1, 9);
        hasCode(x, 0, 4);
        hasCode(x, 1, 2);
        hasCode(x, 2, 4);
        // What is never reached needs none.
        hasCode(x, 7, 2);
        noCode(x, 3);
        check.due("count(4)", 4, x.count(4));
        noCode(x, 6);
        check.gives(x, 6, 0, 0, 0, -1);
        hasCode(x, 6, 4);
        check.due("count(4)", 5, x.count(4));
    }

    private static void turnedThoughNoRoom() throws Exception {
        check.part("before room is looked for");
        LazyCompiler x = new LazyCompiler();
        // Eight frames of 14 words leave eight, and method 6 needs ten.
        check.made(x, 0, LOAD, 0, ZERO, 7, LOAD, 0, INT, 1, SUB, 0, CALL, 0, GIVE, 0,
            INT, 1, INT, 1, INT, 1, INT, 1, CALL, 6, GOTO, 12);
        check.made(x, 6, NULL, 0, GIVE, 0);
        noCode(x, 6);
        check.throwsOut(x, 0, 0, 7, 5, 32 * 0 + 11);
        hasCode(x, 6, 2);
    }

    private static void turnedOncePerBody() throws Exception {
        check.part("once for each body");
        LazyCompiler x = new LazyCompiler();
        check.made(x, 0, INT, 1, GIVE, 0);
        check.gives(x, 0, 0, 0, 0, 1);
        int[] first = code(x, 0);
        check.gives(x, 0, 0, 0, 0, 1);
        check.due("the same code", true, Arrays.equals(first, code(x, 0)));
        check.refused(x, 0, 0, GIVE, 0);
        check.due("the same code", true, Arrays.equals(first, code(x, 0)));
        check.made(x, 0, LOAD, 0, INT, 1, ADD, 0, GIVE, 0);
        noCode(x, 0);
        check.gives(x, 0, 0, 0, 4, 5);
        hasCode(x, 0, 4);
        check.made(x, 0, INT, 2, GIVE, 0);
        check.gives(x, 0, 0, 0, 4, 2);
        hasCode(x, 0, 2);
        check.due("count(4)", 3, x.count(4));
    }

    private static void linkedCalls() throws Exception {
        check.part("a CALL is linked when it is done for the first time with a body to call");
        LazyCompiler x = new LazyCompiler();
        check.made(x, 0, INT, 3, CALL, 1, GIVE, 0);
        check.throwsOut(x, 0, 0, 0, 4, 1);
        int unlinked = code(x, 0)[1];
        check.made(x, 1, LOAD, 0, GIVE, 0);
        check.gives(x, 0, 0, 0, 0, 3);
        int linked = code(x, 0)[1];
        check.due("it is another code", true, linked != unlinked);
        check.gives(x, 0, 0, 0, 0, 3);
        check.due("it stays linked", linked, code(x, 0)[1]);
        check.made(x, 2, LOAD, 1, GIVE, 0);
        check.due("another method's body", linked, code(x, 0)[1]);
        check.made(x, 1, INT, 8, GIVE, 0);
        check.due("the other one's next body", unlinked, code(x, 0)[1]);
        check.gives(x, 0, 0, 0, 0, 8);
        check.due("linked once more", linked, code(x, 0)[1]);
        check.due("count(5)", 2, x.count(5));
    }
}
