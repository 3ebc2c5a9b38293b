/** Promises 12, 13, 14 and 19: run, result, origin, and the instructions. */
public final class RunningTest implements HelpOps {
    private static final int OK = LazyCompiler.OK, REFUSED = LazyCompiler.REFUSED;
    private static final int THROWN = LazyCompiler.THROWN, LONG = LazyCompiler.LONG;
    private static final long NOTHING = LazyCompiler.NOTHING;
    private static final int LEAST = Integer.MIN_VALUE, MOST = Integer.MAX_VALUE;
    private static final HelpCheck check = new HelpCheck();

    public static void main(String[] args) {
        takenFromOutside();
        refused();
        untilTheEnd();
        calculating();
        jumping();
        fields();
        fieldsThrow();
        classTests();
        calling();
        callingThrows();
        sending();
        thrownThrough();
        thrownAgain();
        results();
        roomForFrames();
        check.end();
    }

    /** Class 0 has an int and a reference, class 1 below it one more int, class 2 is by itself with an int. */
    private static LazyCompiler classes() {
        LazyCompiler x = new LazyCompiler();
        check.due("cls", true, x.cls(0, -1, 1, 1));
        check.due("cls", true, x.cls(1, 0, 1, 0));
        check.due("cls", true, x.cls(2, -1, 1, 0));
        return x;
    }

    /** GLOBAL c refers to an object of class c. */
    private static LazyCompiler objects() {
        LazyCompiler x = classes();
        check.made(x, 0, NEW, 0, KEEP, 0, NEW, 1, KEEP, 1, NEW, 2, KEEP, 2, INT, 0, GIVE, 0);
        check.gives(x, 0, 0, 0, 0, 0);
        return x;
    }

    private static void takenFromOutside() {
        check.part("promise 12, taken");
        LazyCompiler x = objects();
        for (int m = 0; m < 2; m++) {
            check.made(x, m, LOAD, 0, GIVE, 0);
            check.gives(x, m, 1, 2, -5, -5);
        }
        for (int m = 2; m < 4; m++) {
            check.made(x, m, LOAD, 0, IS, 1, LOAD, 1, ADD, 0, GIVE, 0);
            check.gives(x, m, 1, 2, 40, 41);
            check.gives(x, m, 2, 1, 40, 40);
        }
        for (int m = 4; m < 6; m++) {
            check.made(x, m, LOAD, 1, ZERO, 4, LOAD, 0, GIVE, 0, NULL, 0, GIVE, 0);
            check.gives(x, m, 1, 2, 1, 1);
            check.due("GLOBAL 3", 1, x.look(3, 0));
            check.gives(x, m, 1, 2, 0, -1);
            check.due("GLOBAL 3", NOTHING, x.look(3, 0));
        }
        check.made(x, 6, FETCH, 2, GIVE, 0);
        check.gives(x, 6, 0, 0, 0, 2);
        check.due("GLOBAL 3", 2, x.look(3, 0));
        check.made(x, 7, LOAD, 0, IS, 1, LOAD, 1, IS, 2, LESS, 0, GIVE, 0);
        check.gives(x, 7, 0, 2, 0, 1);
        check.gives(x, 7, 1, 2, 0, 0);
        check.gives(x, 7, 2, 0, 0, 0);
        check.due("GLOBAL 3 stays", 2, x.look(3, 0));
        check.made(x, 7, LOAD, 0, LOAD, 1, SAME, 0, GIVE, 0);
        check.gives(x, 7, 2, 3, 0, 1);
        check.gives(x, 7, 1, 2, 0, 0);
    }

    private static void refused() {
        check.part("promise 12, refused");
        LazyCompiler x = new LazyCompiler();
        check.made(x, 0, LOAD, 0, POP, 0, LOAD, 0, GIVE, 0);
        check.gives(x, 0, 0, 0, 6, 6);
        int[][] wrong = {{-1, 0, 0}, {8, 0, 0}, {1, 0, 0}, {0, -1, 0}, {0, 4, 0}, {0, 0, -1}, {0, 0, 4}};
        for (int[] w : wrong) {
            check.due("run", REFUSED, x.run(w[0], w[1], w[2], 7));
            check.due("result()", 6, x.result());
            check.due("origin()", -1, x.origin());
            check.due("count(0)", 4, x.count(0));
            check.due("count(4)", 1, x.count(4));
        }
        check.made(x, 1, INT, 9, THROW, 0);
        check.throwsOut(x, 1, 0, 0, 9, 33);
        check.due("run", REFUSED, x.run(2, 0, 0, 0));
        check.due("result()", 9, x.result());
        check.due("origin()", 33, x.origin());
    }

    /** Does 7 instructions for each of its INT, and 4 and those at the end. */
    private static void counting(LazyCompiler x, int... end) {
        int[] pairs = {LOAD, 0, ZERO, 7, LOAD, 0, INT, 1, SUB, 0, STORE, 0, GOTO, 0};
        int[] all = java.util.Arrays.copyOf(pairs, pairs.length + end.length);
        System.arraycopy(end, 0, all, pairs.length, end.length);
        check.made(x, 0, all);
    }

    private static void untilTheEnd() {
        check.part("promise 12, 1000 instructions");
        LazyCompiler x = new LazyCompiler();
        counting(x, INT, 9, POP, 0, LOAD, 0, GIVE, 0);
        check.gives(x, 0, 0, 0, 142, 0);
        check.due("count(0)", 1000, x.count(0));
        counting(x, INT, 9, POP, 0, INT, 77, THROW, 0);
        check.throwsOut(x, 0, 0, 142, 77, 10);
        check.due("count(0)", 1000, x.count(0));
        counting(x, INT, 9, DUP, 0, POP, 0, POP, 0, NULL, 0, POP, 0, LOAD, 0, GIVE, 0);
        check.gives(x, 0, 0, 0, 141, 0);
        check.due("count(0)", 997, x.count(0));
        check.due("run", LONG, x.run(0, 0, 0, 142));
        check.due("result()", NOTHING, x.result());
        check.due("origin()", -1, x.origin());
        check.due("count(0)", 1000, x.count(0));
        counting(x, INT, 9, DUP, 0, ADD, 0, POP, 0, LOAD, 0, GIVE, 0);
        check.due("one too many, thrown or given", LONG, x.run(0, 0, 0, 142));
        counting(x, INT, 9, POP, 0, GOTO, 10, LOAD, 0, GIVE, 0);
        check.due("1001", LONG, x.run(0, 0, 0, 142));
        check.made(x, 6, FETCH, 0, POP, 0, GOTO, 0);
        check.due("run", LONG, x.run(6, 0, 0, 0));
        check.gives(x, 0, 0, 0, 1, 0);
        check.due("count(0)", 7 + 7, x.count(0));
    }

    private static long calculated(int op, int p, int q) {
        LazyCompiler x = new LazyCompiler();
        check.made(x, 0, INT, p, LOAD, 0, op, 0, GIVE, 0);
        check.due("run", OK, x.run(0, 0, 0, q));
        return x.result();
    }

    private static void calculating() {
        check.part("promise 19, numbers");
        check.due("ADD", 7, calculated(ADD, 3, 4));
        check.due("ADD wraps", LEAST, calculated(ADD, MOST, 1));
        check.due("SUB", -1, calculated(SUB, 3, 4));
        check.due("SUB wraps", MOST, calculated(SUB, LEAST, 1));
        check.due("DIV", 2, calculated(DIV, 7, 3));
        check.due("DIV cuts towards 0", -2, calculated(DIV, -7, 3));
        check.due("DIV cuts towards 0", -2, calculated(DIV, 7, -3));
        check.due("DIV cuts towards 0", 0, calculated(DIV, -1, 2));
        check.due("DIV wraps", LEAST, calculated(DIV, LEAST, -1));
        check.due("LESS", 1, calculated(LESS, 3, 4));
        check.due("LESS", 0, calculated(LESS, 4, 4));
        check.due("LESS", 0, calculated(LESS, 5, 4));
        check.due("LESS", 1, calculated(LESS, LEAST, MOST));
        check.due("LESS", 0, calculated(LESS, MOST, LEAST));
        LazyCompiler x = new LazyCompiler();
        check.made(x, 0, LOAD, 0, LOAD, 0, DIV, 0, GIVE, 0);
        check.throwsOut(x, 0, 0, 0, 1, 2);
        check.gives(x, 0, 0, 0, -4, 1);
    }

    private static void jumping() {
        check.part("promise 12, ways");
        LazyCompiler x = objects();
        check.made(x, 1, LOAD, 0, ZERO, 4, INT, 5, GIVE, 0, INT, 6, GIVE, 0);
        check.gives(x, 1, 0, 0, 0, 6);
        check.gives(x, 1, 0, 0, 1, 5);
        check.gives(x, 1, 0, 0, LEAST, 5);
        check.made(x, 2, LOAD, 0, NONE, 4, INT, 5, GIVE, 0, INT, 6, GIVE, 0);
        check.gives(x, 2, 0, 0, 0, 5);
        check.gives(x, 2, 3, 0, 0, 6);
        check.made(x, 7, NULL, 0, NULL, 0, SAME, 0, LOAD, 0, NULL, 0, SAME, 0, INT, 2, ADD, 0, SUB, 0, GIVE, 0);
        check.gives(x, 7, 0, 0, 0, 1 - 2);
        check.gives(x, 7, 3, 0, 0, 1 - 3);
        check.made(x, 1, INT, 1, INT, 2, INT, 3, INT, 4, INT, 5, GIVE, 0);
        check.gives(x, 1, 0, 0, 0, 5);
        check.due("count(0)", 6, x.count(0));
        check.made(x, 1, INT, 3, DUP, 0, STORE, 5, INT, 1, SUB, 0, LOAD, 5, DIV, 0, GIVE, 0);
        check.gives(x, 1, 0, 0, 0, 0);
        check.made(x, 6, FETCH, 2, KEEP, 0, FETCH, 0, GIVE, 0);
        check.gives(x, 6, 0, 0, 0, 2);
        check.due("KEEP", 2, x.look(0, 0));
        check.made(x, 6, NULL, 0, KEEP, 0, FETCH, 0, GIVE, 0);
        check.gives(x, 6, 0, 0, 0, -1);
        check.due("KEEP null", NOTHING, x.look(0, 0));
    }

    private static void fields() {
        check.part("promise 12, FIELDS");
        LazyCompiler x = objects();
        check.made(x, 3, LOAD, 0, LOAD, 1, PUT, 0, LOAD, 0, GET, 0, INT, 1, ADD, 0, GIVE, 0);
        check.gives(x, 3, 0, 0, 6, 7);
        check.gives(x, 3, 1, 0, 7, 8);
        check.due("look(0, 1)", 6, x.look(0, 1));
        check.due("look(1, 1)", 7, x.look(1, 1));
        check.made(x, 2, LOAD, 0, LOAD, 1, PUT, 18, LOAD, 0, GET, 18, LOAD, 0, GET, 0, SUB, 0, GIVE, 0);
        check.gives(x, 2, 1, 0, 20, 13);
        check.due("look(1, 1)", 7, x.look(1, 1));
        check.due("look(1, 2)", -1, x.look(1, 2));
        check.due("look(1, 3)", 20, x.look(1, 3));
        check.made(x, 7, LOAD, 0, LOAD, 1, PUT, 17, LOAD, 0, GET, 1, IS, 2, GIVE, 0);
        check.gives(x, 7, 1, 2, 0, 1);
        check.due("look(1, 2)", 2, x.look(1, 2));
    }

    private static void fieldsThrow() {
        check.part("promise 12, FIELDS, thrown");
        LazyCompiler x = objects();
        check.made(x, 2, LOAD, 0, GET, 16, GIVE, 0);
        check.throwsOut(x, 2, 3, 0, 2, 65);
        check.throwsOut(x, 2, 0, 0, 3, 65);
        check.throwsOut(x, 2, 2, 0, 3, 65);
        check.gives(x, 2, 1, 0, 0, 0);
        check.made(x, 2, LOAD, 0, LOAD, 1, PUT, 16, INT, 0, GIVE, 0);
        check.throwsOut(x, 2, 3, 5, 2, 66);
        check.throwsOut(x, 2, 0, 5, 3, 66);
        check.throwsOut(x, 2, 2, 5, 3, 66);
        check.due("unchanged", 0, x.look(0, 1));
        check.due("unchanged", 0, x.look(2, 1));
        check.gives(x, 2, 1, 0, 5, 0);
        check.due("look(1, 1)", 5, x.look(1, 1));
    }

    private static void classTests() {
        check.part("promise 12, IS");
        LazyCompiler x = objects();
        int[][] due = {{1, 1, 0}, {0, 1, 0}, {0, 0, 1}};
        for (int c = 0; c < 3; c++) {
            check.made(x, 2, LOAD, 0, IS, c, GIVE, 0);
            for (int g = 0; g < 3; g++) check.gives(x, 2, g, 0, 0, due[c][g]);
            check.gives(x, 2, 3, 0, 0, 0);
        }
    }

    private static void calling() {
        check.part("promise 12, CALL");
        LazyCompiler x = objects();
        check.made(x, 2, LOAD, 0, IS, 1, LOAD, 1, SUB, 0, GIVE, 0);
        check.made(x, 1, INT, 50, FETCH, 1, LOAD, 0, CALL, 2, ADD, 0, GIVE, 0);
        check.gives(x, 1, 0, 0, 7, 50 + 1 - 7);
        check.due("count(0)", 11, x.count(0));
        check.made(x, 7, LOAD, 0, IS, 1, INT, 10, LOAD, 1, IS, 1, SUB, 0, SUB, 0, GIVE, 0);
        check.made(x, 1, FETCH, 1, FETCH, 0, CALL, 7, GIVE, 0);
        check.gives(x, 1, 0, 0, 0, 1 - 10);
        check.made(x, 4, LOAD, 0, LOAD, 1, PUT, 0, LOAD, 0, GIVE, 0);
        check.made(x, 1, FETCH, 0, LOAD, 0, CALL, 4, GET, 0, GIVE, 0);
        check.gives(x, 1, 0, 0, 31, 31);
        check.due("GLOBAL 3 is for the run alone", NOTHING, x.look(3, 0));
        check.made(x, 6, CALL, 6, GIVE, 0);
        check.throwsOut(x, 6, 0, 0, 5, 6 * 32);
        check.due("count(0)", 12, x.count(0));
    }

    private static void callingThrows() {
        check.part("promise 12, CALL, thrown");
        LazyCompiler x = new LazyCompiler();
        check.made(x, 0, LOAD, 0, CALL, 1, GIVE, 0);
        check.throwsOut(x, 0, 0, 0, 4, 1);
        check.due("count(5)", 0, x.count(5));
        check.made(x, 1, LOAD, 0, GIVE, 0);
        check.gives(x, 0, 0, 0, 3, 3);
        check.due("count(5)", 1, x.count(5));
    }

    private static void sending() {
        check.part("promise 12, SEND");
        LazyCompiler x = objects();
        check.made(x, 2, LOAD, 1, INT, 2, ADD, 0, GIVE, 0);
        check.made(x, 4, LOAD, 0, LOAD, 1, PUT, 0, LOAD, 0, GIVE, 0);
        check.due("slot", true, x.slot(0, 0, 2));
        check.due("slot", true, x.slot(1, 0, 3));
        check.due("slot", true, x.slot(0, 3, 4));
        check.made(x, 7, LOAD, 0, INT, 8, SEND, 0, GIVE, 0);
        check.gives(x, 7, 0, 0, 0, 10);
        check.throwsOut(x, 7, 1, 0, 4, 7 * 32 + 2);
        check.throwsOut(x, 7, 2, 0, 4, 7 * 32 + 2);
        check.throwsOut(x, 7, 3, 0, 2, 7 * 32 + 2);
        check.made(x, 3, LOAD, 0, IS, 1, GIVE, 0);
        check.gives(x, 7, 1, 0, 0, 1);
        check.made(x, 7, LOAD, 0, INT, 8, SEND, 3, GET, 0, GIVE, 0);
        check.gives(x, 7, 1, 0, 0, 8);
        check.due("no links", 0, x.count(5));
        check.made(x, 2, LOAD, 0, LOAD, 1, SEND, 0, GIVE, 0);
        check.throwsOut(x, 2, 0, 0, 5, 2 * 32 + 2);
        check.due("10 frames of 11", 30, x.count(0));
    }

    private static void thrownThrough() {
        check.part("promise 14, through methods");
        LazyCompiler x = new LazyCompiler();
        check.made(x, 0, INT, 5, POP, 0, LOAD, 0, THROW, 0);
        check.made(x, 1, INT, 2, POP, 0, LOAD, 0, CALL, 0, GIVE, 0);
        check.made(x, 3, LOAD, 1, CALL, 1, GIVE, 0);
        check.throwsOut(x, 3, 0, -8, -8, 3);
        check.due("count(0)", 2 + 4 + 4, x.count(0));
        check.draft(x, INT, 70, LOAD, 1, CALL, 1, ADD, 0, GIVE, 0, INT, 100, ADD, 0, GIVE, 0);
        check.due("catcher", true, x.catcher(2, 3, 5));
        check.due("make(3)", OK, x.make(3));
        check.gives(x, 3, 0, 0, 4, 104);
        check.due("count(0)", 3 + 4 + 4 + 3, x.count(0));
        check.draft(x, INT, 70, LOAD, 1, CALL, 1, ADD, 0, GIVE, 0, INT, 100, ADD, 0, GIVE, 0);
        check.due("catcher, not the CALL", true, x.catcher(3, 8, 5));
        check.due("make(3)", OK, x.make(3));
        check.throwsOut(x, 3, 0, 4, 4, 3);
    }

    private static void thrownAgain() {
        check.part("promise 19, thrown again");
        LazyCompiler x = new LazyCompiler();
        check.draft(x, INT, 1, INT, 0, DIV, 0, GIVE, 0, THROW, 0);
        check.due("catcher", true, x.catcher(0, 3, 4));
        check.due("make(0)", OK, x.make(0));
        check.throwsOut(x, 0, 0, 0, 1, 4);
        check.made(x, 1, LOAD, 0, CALL, 0, GIVE, 0);
        check.throwsOut(x, 1, 0, 0, 1, 4);
        check.draft(x, LOAD, 0, CALL, 0, GIVE, 0, THROW, 0);
        check.due("catcher", true, x.catcher(0, 2, 3));
        check.due("make(1)", OK, x.make(1));
        check.throwsOut(x, 1, 0, 0, 1, 32 + 3);
        check.draft(x, INT, 5, THROW, 0);
        check.due("its own CATCHER", true, x.catcher(0, 2, 1));
        check.due("make(1)", OK, x.make(1));
        check.due("run", LONG, x.run(1, 0, 0, 0));
        check.due("origin()", -1, x.origin());
    }

    private static void results() {
        check.part("promise 13");
        LazyCompiler x = objects();
        check.made(x, 2, LOAD, 1, ZERO, 4, LOAD, 1, GIVE, 0, INT, 7, THROW, 0);
        check.gives(x, 2, 0, 0, MOST, MOST);
        check.throwsOut(x, 2, 0, 0, 7, 2 * 32 + 5);
        check.gives(x, 2, 0, 0, LEAST, LEAST);
        check.made(x, 4, LOAD, 0, GIVE, 0);
        for (int g = 0; g < 3; g++) check.gives(x, 4, g, 0, 0, g);
        check.due("set", true, x.set(0, -1));
        check.gives(x, 4, 0, 0, 0, -1);
        check.made(x, 5, INT, 3, THROW, 0);
        check.throwsOut(x, 5, 1, 0, 3, 5 * 32 + 1);
        check.due("GLOBAL 3 stays", NOTHING, x.look(3, 0));
        check.made(x, 5, GOTO, 0);
        check.due("run", LONG, x.run(5, 1, 0, 0));
        check.due("result()", NOTHING, x.result());
        check.gives(x, 4, 1, 0, 0, 1);
        check.due("run", THROWN, x.run(2, 0, 0, 0));
        check.due("result()", 7, x.result());
    }

    private static void roomForFrames() {
        check.part("promise 12, room for frames");
        LazyCompiler x = new LazyCompiler();
        check.made(x, 0, LOAD, 0, ZERO, 4, LOAD, 0, GOTO, 6, INT, 0, GIVE, 0, INT, 1, SUB, 0, CALL, 0, GIVE, 0);
        check.due("body(0, 1)", 11, x.body(0, 1));
        check.gives(x, 0, 0, 0, 9, 0);
        check.throwsOut(x, 0, 0, 10, 5, 8);
        // Ten frames of 11 leave 10 words: room for a method of 10, not for one of 11.
        check.made(x, 1, INT, 44, GIVE, 0);
        check.made(x, 0, LOAD, 0, ZERO, 7, LOAD, 0, INT, 1, SUB, 0, CALL, 0, GIVE, 0, INT, 0, CALL, 1, GIVE, 0);
        check.gives(x, 0, 0, 0, 9, 44);
        check.made(x, 1, INT, 44, INT, 1, POP, 0, GIVE, 0);
        check.throwsOut(x, 0, 0, 9, 5, 8);
        check.gives(x, 0, 0, 0, 8, 44);
    }
}
