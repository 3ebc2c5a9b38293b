/** Promises 5, 6, 7, 9 and 10: code, catcher, make, wipe, body. */
public final class DraftTest implements HelpOps {
    private static final int OK = LazyCompiler.OK, REFUSED = LazyCompiler.REFUSED;
    private static final HelpCheck check = new HelpCheck();

    public static void main(String[] args) {
        operands();
        fullDraft();
        catcherNumbers();
        catcherRange();
        catcherReplaced();
        makeTakesTheDraft();
        makeRefuses();
        wipes();
        bodies();
        check.end();
    }

    private static void operands() {
        check.part("promise 5, operands");
        int[] most = {-1, -1, 5, 5, -1, -1, -1, -1, 23, 23, 23, -1, 3, 63, 63, 3, 7, 3, -1, -1, -1, -1, 3, 3};
        for (int op = 0; op < 24; op++) {
            LazyCompiler x = new LazyCompiler();
            int due = most[op] < 0 ? 1 : REFUSED;
            for (int a : new int[] {-1, most[op] + 1, Integer.MIN_VALUE, Integer.MAX_VALUE}) {
                check.due("code(" + op + ", " + a + ")", due, x.code(op, a));
                x.wipe();
            }
            for (int a = 0; a <= most[op]; a++) {
                check.due("code(" + op + ", " + a + ")", 1, x.code(op, a));
                x.wipe();
            }
        }
        LazyCompiler x = new LazyCompiler();
        check.due("op -1", REFUSED, x.code(-1, 0));
        check.due("op 24", REFUSED, x.code(24, 0));
        check.due("nothing was added", 0, x.wipe());
    }

    private static void fullDraft() {
        check.part("promise 5, 24 instructions");
        LazyCompiler x = new LazyCompiler();
        for (int i = 0; i < 22; i++) check.due("code", i + 1, x.code(i % 2 == 0 ? INT : POP, i));
        check.due("code", 23, x.code(INT, Integer.MIN_VALUE));
        check.due("code", 24, x.code(GIVE, 0));
        check.due("one more", REFUSED, x.code(GIVE, 0));
        check.due("make(0)", OK, x.make(0));
        check.due("body(0, 0)", 24, x.body(0, 0));
        check.gives(x, 0, 0, 0, 0, Integer.MIN_VALUE);
        check.due("empty again", 1, x.code(GIVE, 0));
    }

    private static void catcherNumbers() {
        check.part("promise 6, numbers");
        LazyCompiler x = new LazyCompiler();
        check.due("from -1", false, x.catcher(-1, 1, 0));
        check.due("to 25", false, x.catcher(0, 25, 0));
        check.due("goal -1", false, x.catcher(0, 1, -1));
        check.due("goal 25", false, x.catcher(0, 1, 25));
        check.due("goal 25, none", false, x.catcher(3, 3, 25));
        check.due("goal -1, none", false, x.catcher(3, 3, -1));
        check.due("both 25", false, x.catcher(25, 25, 0));
        check.due("both -1", false, x.catcher(-1, -1, 0));
        check.due("from greater", false, x.catcher(2, 1, 0));
        check.due("greatest", true, x.catcher(0, 24, 24));
        check.due("both 24", true, x.catcher(24, 24, 24));
        check.due("both 0", true, x.catcher(0, 0, 0));
    }

    /** Divides 1 by its INT; what is caught is given with 10 more. */
    private static LazyCompiler dividing(int from, int to) {
        LazyCompiler x = new LazyCompiler();
        check.draft(x, INT, 1, LOAD, 0, DIV, 0, GIVE, 0, INT, 10, ADD, 0, GIVE, 0);
        check.due("catcher", true, x.catcher(from, to, 4));
        check.due("make(0)", OK, x.make(0));
        return x;
    }

    private static void catcherRange() {
        check.part("promise 6, range");
        check.gives(dividing(2, 3), 0, 0, 0, 0, 11);
        check.gives(dividing(2, 3), 0, 0, 0, 1, 1);
        check.gives(dividing(0, 3), 0, 0, 0, 0, 11);
        check.gives(dividing(2, 7), 0, 0, 0, 0, 11);
        check.throwsOut(dividing(0, 2), 0, 0, 0, 1, 2);
        check.throwsOut(dividing(3, 7), 0, 0, 0, 1, 2);
        check.throwsOut(dividing(2, 2), 0, 0, 0, 1, 2);
    }

    private static void catcherReplaced() {
        check.part("promise 6, the latest one");
        LazyCompiler x = new LazyCompiler();
        check.due("before any code", true, x.catcher(0, 3, 3));
        for (int[] i : new int[][] {{INT, 1}, {INT, 0}, {DIV, 0}, {GIVE, 0}, {POP, 0}, {INT, 44}, {GIVE, 0}}) {
            x.code(i[0], i[1]);
        }
        check.due("another one", true, x.catcher(0, 3, 4));
        check.due("a wrong one", false, x.catcher(0, 3, 25));
        check.due("make(0)", OK, x.make(0));
        check.gives(x, 0, 0, 0, 0, 44);

        check.draft(x, INT, 1, INT, 0, DIV, 0, GIVE, 0);
        check.due("catcher", true, x.catcher(0, 3, 3));
        check.due("none any more", true, x.catcher(1, 1, 0));
        check.due("make(0)", OK, x.make(0));
        check.throwsOut(x, 0, 0, 0, 1, 2);
    }

    private static void makeTakesTheDraft() {
        check.part("promise 7, takes");
        LazyCompiler x = new LazyCompiler();
        for (int m = 0; m < 8; m++) {
            boolean gives = m >= 4 && m <= 6;
            check.made(x, m, gives ? NULL : INT, 7, GIVE, 0);
            check.due("the draft is empty", 0, x.wipe());
            check.gives(x, m, 0, 0, 0, gives ? -1 : 7);
        }
        check.made(x, 0, INT, 8, GIVE, 0);
        check.gives(x, 0, 0, 0, 0, 8);
        check.gives(x, 1, 0, 0, 0, 7);

        check.draft(x, INT, 1, INT, 0, DIV, 0, GIVE, 0);
        check.due("catcher", true, x.catcher(0, 3, 3));
        check.due("make(0)", OK, x.make(0));
        check.gives(x, 0, 0, 0, 0, 1);
        check.draft(x, INT, 1, INT, 0, DIV, 0, GIVE, 0);
        check.due("make(0)", OK, x.make(0));
        check.throwsOut(x, 0, 0, 0, 1, 2);
    }

    private static void makeRefuses() {
        check.part("promise 7, refuses");
        LazyCompiler x = new LazyCompiler();
        check.made(x, 0, INT, 5, GIVE, 0);
        check.due("empty", REFUSED, x.make(0));
        check.gives(x, 0, 0, 0, 0, 5);
        check.draft(x, INT, 6, GIVE, 0);
        check.due("method -1", REFUSED, x.make(-1));
        check.due("method 8", REFUSED, x.make(8));
        check.due("gives REF", REFUSED, x.make(6));
        check.due("place()", 1, x.place());
        check.due("no body", -1, x.body(6, 0));
        check.due("the draft stays", OK, x.make(0));
        check.gives(x, 0, 0, 0, 0, 6);

        check.draft(x, INT, 1, INT, 0, DIV, 0, GIVE, 0);
        check.due("catcher", true, x.catcher(0, 3, 3));
        check.due("gives REF", REFUSED, x.make(5));
        check.due("make(0)", OK, x.make(0));
        check.gives(x, 0, 0, 0, 0, 1);
    }

    private static void wipes() {
        check.part("promise 9");
        LazyCompiler x = new LazyCompiler();
        check.due("wipe()", 0, x.wipe());
        check.draft(x, INT, 1, INT, 0, DIV, 0, GIVE, 0);
        check.due("catcher", true, x.catcher(0, 3, 3));
        check.due("wipe()", 4, x.wipe());
        check.due("wipe()", 0, x.wipe());
        check.due("make(0)", REFUSED, x.make(0));
        check.made(x, 0, INT, 1, INT, 0, DIV, 0, GIVE, 0);
        check.throwsOut(x, 0, 0, 0, 1, 2);
        check.due("bodies stay", 4, x.body(0, 0));
    }

    private static void bodies() {
        check.part("promise 10");
        LazyCompiler x = new LazyCompiler();
        check.due("none", -1, x.body(3, 0));
        check.made(x, 3, GOTO, 0);
        check.due("length", 1, x.body(3, 0));
        check.due("an empty stack", 9, x.body(3, 1));
        check.due("what 2", -1, x.body(3, 2));
        check.due("what -1", -1, x.body(3, -1));
        check.due("method -1", -1, x.body(-1, 0));
        check.due("method 8", -1, x.body(8, 0));
        check.made(x, 3, INT, 1, INT, 2, INT, 3, INT, 4, INT, 5, INT, 6, GIVE, 0);
        check.due("six", 15, x.body(3, 1));
        check.made(x, 3, INT, 1, GIVE, 0, INT, 1, INT, 2, ADD, 0, GIVE, 0);
        check.due("what is not reached does not count", 10, x.body(3, 1));
        check.made(x, 3, INT, 1, DUP, 0, POP, 0, GIVE, 0);
        check.due("behind DUP", 11, x.body(3, 1));
        check.draft(x, GOTO, 0, GIVE, 0);
        check.due("catcher", true, x.catcher(0, 1, 1));
        check.due("make(3)", OK, x.make(3));
        check.due("what is thrown", 10, x.body(3, 1));
        check.made(x, 4, LOAD, 0, GIVE, 0);
        check.due("length of another", 2, x.body(4, 0));
        check.due("and still", 2, x.body(3, 0));
    }
}
