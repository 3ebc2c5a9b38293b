import java.util.ArrayList;
import java.util.List;

/**
 * What a refused call leaves as it was: of two objects that have got the same calls one gets the refused call too; all
 * calls that come behind it must answer the same on both.
 */
public final class RefusedTest implements HelpOps {
    private static final int LEAST = Integer.MIN_VALUE, MOST = Integer.MAX_VALUE, REFUSED = LazyCompiler.REFUSED;
    private static final long NOTHING = LazyCompiler.NOTHING;
    private static final HelpCheck check = new HelpCheck();

    private enum Draft { PLAIN, FULL, EMPTY, MISSING, HEIGHTS, KINDS, CATCHER }

    private interface Call {
        long on(LazyCompiler x);
    }

    public static void main(String[] args) {
        classes();
        slots();
        initialisers();
        codes();
        catchers();
        makes();
        bodiesAndMaps();
        runs();
        looks();
        goes();
        sets();
        counts();
        check.end();
    }

    /** Three classes, methods but 3 and 5, objects at GLOBALS 0, 1 and 3, a COLLECTION, a run that was THROWN. */
    private static LazyCompiler prepared(Draft draft) {
        LazyCompiler x = new LazyCompiler();
        check.due("cls(0, ..)", true, x.cls(0, -1, 1, 1));
        check.due("cls(1, ..)", true, x.cls(1, 0, 1, 0));
        check.due("cls(2, ..)", true, x.cls(2, -1, 0, 2));
        check.due("slot(0, 0, 2)", true, x.slot(0, 0, 2));
        check.due("slot(1, 1, 2)", true, x.slot(1, 1, 2));
        check.due("slot(0, 2, 4)", true, x.slot(0, 2, 4));
        check.due("slot(1, 3, 4)", true, x.slot(1, 3, 4));
        check.due("initialiser(0, 0)", true, x.initialiser(0, 0));
        check.due("initialiser(2, 1)", true, x.initialiser(2, 1));
        check.made(x, 0, LOAD, 0, GIVE, 0);
        check.made(x, 1, FETCH, 0, LOAD, 0, CALL, 2, THROW, 0);
        check.made(x, 2, LOAD, 1, INT, 1, ADD, 0, GIVE, 0);
        check.made(x, 4, LOAD, 0, LOAD, 1, PUT, 0, LOAD, 0, GIVE, 0);
        check.made(x, 6, NEW, 1, GIVE, 0);
        for (int i = 0; i < 13; i++) check.due("run(6, ..)", LazyCompiler.OK, x.run(6, 0, 0, 0));
        check.due("set(0, 3)", true, x.set(0, 3));
        check.due("run(4, ..)", LazyCompiler.OK, x.run(4, 0, 0, 77));
        check.due("run(6, ..)", LazyCompiler.OK, x.run(6, 0, 0, 0));
        check.due("set(1, 3)", true, x.set(1, 3));
        check.throwsOut(x, 1, 0, 8, 9, 35);
        check.due("COLLECTIONS", 1, x.count(1));
        writeDraft(x, draft);
        return x;
    }

    private static void writeDraft(LazyCompiler x, Draft draft) {
        switch (draft) {
            case PLAIN -> check.draft(x, INT, 7, LOAD, 0, DIV, 0, GIVE, 0);
            case MISSING -> check.draft(x, INT, 7, LOAD, 0, DIV, 0, GIVE, 0, GOTO, 9);
            case HEIGHTS -> check.draft(x, INT, 7, DIV, 0, GIVE, 0, GIVE, 0);
            case KINDS -> check.draft(x, INT, 7, NULL, 0, DIV, 0, GIVE, 0);
            case CATCHER -> check.draft(x, INT, 7, POP, 0);
            case FULL -> {
                check.draft(x, INT, 7, LOAD, 0, DIV, 0, GIVE, 0);
                for (int i = 5; i <= 24; i++) check.due("code", i, x.code(GOTO, 0));
            }
            default -> x.wipe();
        }
        if (draft != Draft.EMPTY) check.due("catcher(2, 3, 3)", true, x.catcher(2, 3, 3));
    }

    private static void read(LazyCompiler x, List<Long> answers) {
        for (int m = 0; m < 8; m++) {
            answers.add((long) x.body(m, 0));
            answers.add((long) x.body(m, 1));
            for (int at = 0; at < 5; at++) answers.add((long) x.map(m, at));
        }
        answers.add(x.result());
        answers.add((long) x.origin());
        for (int g = 0; g < 4; g++) {
            for (int what = 0; what < 4; what++) answers.add(x.look(g, what));
        }
        for (int what = 0; what < 7; what++) answers.add((long) x.count(what));
    }

    private static void runAll(LazyCompiler x, int m, List<Long> answers, int... globals) {
        answers.add((long) x.make(m));
        for (int g : globals) {
            answers.add((long) x.run(m, g, 0, 0));
            answers.add(x.result());
        }
    }

    private static void write(LazyCompiler x, int... pairs) {
        x.wipe();
        for (int i = 0; i < pairs.length; i += 2) x.code(pairs[i], pairs[i + 1]);
    }

    /** What all there is answers: bodies, GLOBALS, counts, then the draft, SLOTS, INITIALISERS and classes by use. */
    private static List<Long> answers(LazyCompiler x) {
        List<Long> answers = new ArrayList<>();
        read(x, answers);
        answers.add((long) x.code(GOTO, 0));
        runAll(x, 0, answers, 0, 1);
        answers.add((long) x.wipe());
        for (int slot = 0; slot < 4; slot++) {
            write(x, LOAD, 0, INT, 50, SEND, slot, POP, 0, INT, 60, GIVE, 0);
            runAll(x, 3, answers, 0, 1, 2);
        }
        answers.add((long) x.run(1, 0, 0, 8));
        answers.add((long) x.count(5));
        for (int c = 0; c < 4; c++) {
            write(x, NEW, c, GIVE, 0);
            runAll(x, 6, answers, 0);
            answers.add((long) x.count(6));
        }
        for (int c = 0; c < 4; c++) answers.add(x.cls(c, -1, 0, 0) ? 1L : 0L);
        read(x, answers);
        return answers;
    }

    private static void refused(Draft draft, String name, long due, Call call) {
        check.part("refused " + name + ", draft " + draft);
        LazyCompiler with = prepared(draft);
        LazyCompiler without = prepared(draft);
        check.due(name, due, call.on(with));
        List<Long> got = answers(with), want = answers(without);
        check.due("how many answers", want.size(), got.size());
        for (int i = 0; i < want.size(); i++) check.due("answer " + i + " behind it", want.get(i), got.get(i));
    }

    private static void isFalse(String name, java.util.function.Predicate<LazyCompiler> call) {
        refused(Draft.PLAIN, name, 0, x -> call.test(x) ? 1 : 0);
    }

    private static void classes() {
        int[][] wrong = {{-1, -1, 0, 0}, {4, -1, 0, 0}, {LEAST, -1, 0, 0}, {MOST, -1, 0, 0}, {0, -1, 0, 0}, {1, -1, 2, 2},
            {2, 0, 2, 2}, {3, 3, 0, 0}, {3, -2, 0, 0}, {3, 4, 0, 0}, {3, -1, -1, 0}, {3, -1, 3, 0}, {3, -1, 0, -1},
            {3, -1, 0, 3}, {3, 0, 3, 3}};
        for (int[] w : wrong) isFalse("cls" + java.util.Arrays.toString(w), x -> x.cls(w[0], w[1], w[2], w[3]));
    }

    private static void slots() {
        int[][] wrong = {{-1, 0, 2}, {3, 0, 2}, {4, 0, 2}, {0, -1, 2}, {0, 4, 4}, {0, 0, -2}, {0, 0, 1}, {0, 0, 4}, {1, 1, 4},
            {0, 2, 3}, {1, 3, 6}, {1, 3, 2}, {3, 0, -1}, {0, 4, -1}, {0, -1, -1}, {0, 0, MOST}, {0, 0, LEAST}};
        for (int[] w : wrong) isFalse("slot" + java.util.Arrays.toString(w), x -> x.slot(w[0], w[1], w[2]));
    }

    private static void initialisers() {
        int[][] wrong = {{-1, 0}, {3, 0}, {3, -1}, {4, 0}, {0, -2}, {0, 2}, {2, -2}, {2, 2}, {2, 7}, {2, MOST}, {2, LEAST}};
        for (int[] w : wrong) isFalse("initialiser" + java.util.Arrays.toString(w), x -> x.initialiser(w[0], w[1]));
    }

    private static void codes() {
        int[][] wrong = {{-1, 0}, {24, 0}, {LEAST, 0}, {MOST, 0}, {LOAD, -1}, {LOAD, 6}, {STORE, -1}, {STORE, 6}, {GOTO, -1},
            {GOTO, 24}, {ZERO, -1}, {ZERO, 24}, {NONE, -1}, {NONE, 24}, {NEW, -1}, {NEW, 4}, {IS, -1}, {IS, 4}, {SEND, -1},
            {SEND, 4}, {FETCH, -1}, {FETCH, 4}, {KEEP, -1}, {KEEP, 4}, {GET, -1}, {GET, 64}, {PUT, -1}, {PUT, 64},
            {CALL, -1}, {CALL, 8}};
        for (int[] w : wrong) {
            String name = "code" + java.util.Arrays.toString(w);
            refused(Draft.PLAIN, name, REFUSED, x -> x.code(w[0], w[1]));
            refused(Draft.EMPTY, name, REFUSED, x -> x.code(w[0], w[1]));
        }
        for (int op = 0; op < 24; op++) {
            int last = op;
            refused(Draft.FULL, "code(" + op + ", 0)", REFUSED, x -> x.code(last, 0));
        }
    }

    private static void catchers() {
        int[][] wrong = {{-1, 3, 3}, {0, 25, 3}, {0, 3, -1}, {0, 3, 25}, {3, 2, 3}, {24, 23, 0}, {25, 25, 0}, {-1, -1, 0},
            {2, 2, 25}, {2, 2, -1}, {LEAST, MOST, 0}, {0, MOST, 0}, {0, 1, MOST}, {0, 1, LEAST}};
        for (int[] w : wrong) {
            isFalse("catcher" + java.util.Arrays.toString(w), x -> x.catcher(w[0], w[1], w[2]));
        }
    }

    private static void makeRefused(Draft draft, int m, int place) {
        refused(draft, "make(" + m + ")", REFUSED, x -> x.make(m));
        refused(draft, "make(" + m + "), place()", place, x -> x.make(m) == REFUSED ? x.place() : -2);
    }

    private static void makes() {
        for (Draft draft : Draft.values()) {
            for (int m : new int[] {-1, 8, LEAST, MOST}) makeRefused(draft, m, -1);
        }
        for (int m = 0; m < 8; m++) {
            makeRefused(Draft.EMPTY, m, -1);
            makeRefused(Draft.MISSING, m, 4);
            makeRefused(Draft.HEIGHTS, m, 1);
            makeRefused(Draft.KINDS, m, 2);
            makeRefused(Draft.CATCHER, m, 24);
        }
        // What is no fault in method 0 is one in these: LOCAL 0 is a REF or nothing, or they give a REF.
        makeRefused(Draft.PLAIN, 2, 2);
        makeRefused(Draft.PLAIN, 4, 2);
        makeRefused(Draft.PLAIN, 6, 1);
        makeRefused(Draft.PLAIN, 7, 2);
        makeRefused(Draft.FULL, 2, 2);
    }

    private static void bodiesAndMaps() {
        for (int[] w : new int[][] {{-1, 0}, {8, 0}, {3, 0}, {0, -1}, {0, 2}, {LEAST, 1}, {MOST, 1}, {0, LEAST}, {0, MOST}}) {
            refused(Draft.PLAIN, "body" + java.util.Arrays.toString(w), -1, x -> x.body(w[0], w[1]));
        }
        for (int[] w : new int[][] {{-1, 0}, {8, 0}, {3, 0}, {0, -1}, {0, 2}, {0, 24}, {8, 1}, {LEAST, 0}, {MOST, 0},
            {0, LEAST}, {0, MOST}}) {
            refused(Draft.PLAIN, "map" + java.util.Arrays.toString(w), -1, x -> x.map(w[0], w[1]));
        }
    }

    private static void runs() {
        int[][] wrong = {{-1, 0, 0}, {8, 0, 0}, {3, 0, 0}, {5, 0, 0}, {LEAST, 0, 0}, {MOST, 0, 0}};
        for (int[] w : wrong) {
            String name = "run" + java.util.Arrays.toString(w);
            refused(Draft.PLAIN, name, REFUSED, x -> x.run(w[0], w[1], w[2], 5));
        }
        for (int m : new int[] {0, 1, 2, 4, 6, 7}) {
            for (int g : new int[] {-1, 4, LEAST, MOST}) {
                refused(Draft.PLAIN, "run(" + m + ", " + g + ", 0, 5)", REFUSED, x -> x.run(m, g, 0, 5));
                refused(Draft.PLAIN, "run(" + m + ", 0, " + g + ", 5)", REFUSED, x -> x.run(m, 0, g, 5));
            }
        }
    }

    private static void looks() {
        for (int[] w : new int[][] {{-1, 0}, {4, 0}, {2, 0}, {2, 1}, {0, -1}, {0, 4}, {LEAST, 0}, {MOST, 0}, {0, LEAST},
            {0, MOST}}) {
            refused(Draft.PLAIN, "look" + java.util.Arrays.toString(w), NOTHING, x -> x.look(w[0], w[1]));
        }
    }

    private static void goes() {
        for (int[] w : new int[][] {{-1, 1}, {4, 1}, {2, 1}, {2, 0}, {0, 0}, {0, 2}, {0, -1}, {0, 3}, {LEAST, 1}, {MOST, 1},
            {0, LEAST}, {0, MOST}}) {
            isFalse("go" + java.util.Arrays.toString(w), x -> x.go(w[0], w[1]));
        }
    }

    private static void sets() {
        for (int[] w : new int[][] {{-1, 0}, {4, 0}, {-1, -1}, {4, -1}, {0, -2}, {0, 4}, {LEAST, 0}, {MOST, 0}, {0, LEAST},
            {0, MOST}}) {
            isFalse("set" + java.util.Arrays.toString(w), x -> x.set(w[0], w[1]));
        }
    }

    private static void counts() {
        for (int what : new int[] {-1, 7, LEAST, MOST}) {
            refused(Draft.PLAIN, "count(" + what + ")", -1, x -> x.count(what));
        }
    }
}
