/** Promises 7, 8 and 11: the faults that make finds, the place of the first one, and the maps. */
public final class LookingThroughTest implements HelpOps {
    private static final int OK = LazyCompiler.OK, REFUSED = LazyCompiler.REFUSED;
    private static final HelpCheck check = new HelpCheck();

    public static void main(String[] args) {
        missing();
        missingCatcher();
        heights();
        heightsOfAllWays();
        kindsPopped();
        kindsAny();
        kindsMeet();
        kindsBehindFault();
        kindsAtCatcher();
        places();
        maps();
        mapNumbers();
        check.end();
    }

    /** Class 0 has an int and a reference, class 1 below it one more int. */
    private static LazyCompiler classes() {
        LazyCompiler x = new LazyCompiler();
        check.due("cls", true, x.cls(0, -1, 1, 1));
        check.due("cls", true, x.cls(1, 0, 1, 0));
        return x;
    }

    private static void missing() {
        check.part("promise 8, (a)");
        LazyCompiler x = classes();
        check.refused(x, 0, 0, GOTO, 1);
        check.refused(x, 0, 2, INT, 1, GIVE, 0, GOTO, 3);
        check.refused(x, 0, 2, INT, 1, GIVE, 0, ZERO, 23, NONE, 23);
        check.refused(x, 0, 3, INT, 1, GIVE, 0, ZERO, 1, NONE, 4);
        check.refused(x, 0, 0, NEW, 2, POP, 0, INT, 1, GIVE, 0);
        check.refused(x, 0, 2, INT, 1, GIVE, 0, IS, 3);
        check.refused(x, 0, 2, INT, 1, GIVE, 0, GET, 32);
        check.refused(x, 0, 2, INT, 1, GIVE, 0, GET, 2);
        check.refused(x, 0, 2, INT, 1, GIVE, 0, PUT, 16 + 3);
        check.refused(x, 0, 2, INT, 1, GIVE, 0, PUT, 63);
        check.made(x, 0, INT, 1, GIVE, 0, GET, 1, PUT, 16 + 2, IS, 1, NEW, 0, GOTO, 6);
        check.refused(x, 0, 1, ADD, 0, GOTO, 9);
        check.refused(x, 0, 2, LOAD, 5, GIVE, 0, GOTO, 9);
    }

    private static int withCatcher(LazyCompiler x, int m, int from, int to, int goal, int... pairs) {
        check.draft(x, pairs);
        check.due("catcher", true, x.catcher(from, to, goal));
        return x.make(m);
    }

    private static void missingCatcher() {
        check.part("promise 8, CATCHER");
        LazyCompiler x = classes();
        check.due("range", REFUSED, withCatcher(x, 0, 0, 3, 1, INT, 1, GIVE, 0));
        check.due("place()", 24, x.place());
        check.due("goal", REFUSED, withCatcher(x, 0, 0, 1, 2, INT, 1, GIVE, 0));
        check.due("place()", 24, x.place());
        check.due("goal 24", REFUSED, withCatcher(x, 0, 0, 1, 24, INT, 1, GIVE, 0));
        check.due("place()", 24, x.place());
        check.due("before (b)", REFUSED, withCatcher(x, 0, 5, 6, 0, ADD, 0, GIVE, 0));
        check.due("place()", 24, x.place());
        check.due("behind an instruction", REFUSED, withCatcher(x, 0, 0, 9, 9, INT, 1, GIVE, 0, GOTO, 9));
        check.due("place()", 2, x.place());
        check.due("none", OK, withCatcher(x, 0, 9, 9, 9, INT, 1, GIVE, 0));
        check.due("all there", OK, withCatcher(x, 0, 0, 2, 1, INT, 1, GIVE, 0));
        check.due("place()", -1, x.place());
    }

    private static void heights() {
        check.part("promise 8, (b)");
        LazyCompiler x = classes();
        check.refused(x, 0, 0, INT, 1);
        check.refused(x, 0, 1, LOAD, 0, ZERO, 0);
        check.refused(x, 2, 1, LOAD, 0, NONE, 0);
        check.refused(x, 0, 0, INT, 1, GOTO, 0);
        check.refused(x, 0, 1, LOAD, 0, ADD, 0, GIVE, 0);
        check.refused(x, 0, 6, INT, 1, INT, 1, INT, 1, INT, 1, INT, 1, INT, 1, INT, 1, GIVE, 0);
        check.refused(x, 0, 6, INT, 1, INT, 1, INT, 1, INT, 1, INT, 1, INT, 1, DUP, 0, GIVE, 0);
        check.refused(x, 0, 6, INT, 1, INT, 1, INT, 1, INT, 1, INT, 1, INT, 1, CALL, 6, GIVE, 0);
        check.made(x, 0, INT, 1, INT, 1, INT, 1, INT, 1, INT, 1, INT, 1, CALL, 0, GIVE, 0);
        check.made(x, 0, INT, 1, GIVE, 0, ADD, 0, INT, 1);
        for (int op : new int[] {STORE, ZERO, NONE, GET, IS, GIVE, THROW, DUP, POP, KEEP}) {
            check.refused(x, 0, 1, GOTO, 1, op, 0, INT, 1, GIVE, 0);
        }
        for (int op : new int[] {ADD, SUB, DIV, LESS, SAME, PUT, SEND}) {
            check.refused(x, 0, 1, NULL, 0, op, 0, INT, 1, GIVE, 0);
        }
        int[] taken = {1, 1, 2, 2, 2, 2, 0, 2};
        for (int m = 0; m < 8; m++) {
            if (taken[m] == 1) check.refused(x, 0, 1, GOTO, 1, CALL, m, INT, 1, GIVE, 0);
            if (taken[m] == 2) check.refused(x, 0, 1, NULL, 0, CALL, m, INT, 1, GIVE, 0);
        }
        check.refused(x, 0, 2, NULL, 0, ZERO, 2, ADD, 0, GIVE, 0);
    }

    private static void heightsOfAllWays() {
        check.part("promise 8, (b), ways");
        LazyCompiler x = classes();
        check.refused(x, 0, 3, LOAD, 0, ZERO, 3, INT, 5, INT, 6, ADD, 0, GIVE, 0);
        check.refused(x, 0, 1, GOTO, 4, INT, 1, GIVE, 0, GIVE, 0, LOAD, 0, ZERO, 7, INT, 9, GOTO, 1);
        check.refused(x, 0, 3, GOTO, 3, POP, 0, GIVE, 0, POP, 0, GOTO, 1);
        check.due("from a fault", REFUSED, withCatcher(x, 0, 3, 4, 1, GOTO, 3, POP, 0, ADD, 0, POP, 0, GIVE, 0));
        check.due("place()", 2, x.place());
        check.due("two heights", REFUSED, withCatcher(x, 0, 0, 1, 2, INT, 1, INT, 2, GIVE, 0));
        check.due("place()", 2, x.place());
        check.due("the same height", OK, withCatcher(x, 0, 0, 1, 1, INT, 1, GIVE, 0));
        check.due("a range not reached", OK, withCatcher(x, 0, 2, 3, 0, INT, 1, GIVE, 0, GOTO, 0));
        check.due("a goal before the range", REFUSED,
            withCatcher(x, 0, 3, 4, 1, GOTO, 4, POP, 0, ADD, 0, GIVE, 0, INT, 1, GOTO, 3));
        check.due("place()", 2, x.place());
        check.due("from GIVE", REFUSED, withCatcher(x, 0, 1, 2, 0, INT, 1, GIVE, 0));
        check.due("place()", 0, x.place());
    }

    private static void kindsPopped() {
        check.part("promise 8, (c)");
        LazyCompiler x = classes();
        for (int op : new int[] {ADD, SUB, DIV, LESS}) {
            check.refused(x, 0, 2, INT, 1, NULL, 0, op, 0, GIVE, 0);
            check.refused(x, 0, 2, NULL, 0, INT, 1, op, 0, GIVE, 0);
        }
        check.refused(x, 0, 2, NULL, 0, INT, 1, SAME, 0, GIVE, 0);
        check.refused(x, 0, 2, INT, 1, NULL, 0, SAME, 0, GIVE, 0);
        check.refused(x, 0, 1, NULL, 0, ZERO, 2, INT, 1, GIVE, 0);
        check.refused(x, 0, 1, INT, 0, NONE, 2, INT, 1, GIVE, 0);
        check.refused(x, 0, 1, NULL, 0, THROW, 0);
        check.refused(x, 0, 1, INT, 0, KEEP, 0, INT, 1, GIVE, 0);
        check.refused(x, 0, 1, INT, 0, IS, 0, GIVE, 0);
        check.refused(x, 0, 1, INT, 0, GET, 0, GIVE, 0);
        check.refused(x, 0, 2, NULL, 0, GET, 1, GIVE, 0);
        check.refused(x, 6, 2, NULL, 0, GET, 0, GIVE, 0);
        check.refused(x, 0, 2, NULL, 0, NULL, 0, PUT, 0, INT, 1, GIVE, 0);
        check.refused(x, 0, 2, NULL, 0, INT, 0, PUT, 1, INT, 1, GIVE, 0);
        check.refused(x, 0, 2, INT, 0, INT, 0, PUT, 0, INT, 1, GIVE, 0);
        check.made(x, 0, NULL, 0, INT, 0, PUT, 18, NULL, 0, NULL, 0, PUT, 17, INT, 1, GIVE, 0);
        check.refused(x, 0, 2, INT, 0, NULL, 0, SEND, 0, GIVE, 0);
        check.refused(x, 0, 2, NULL, 0, NULL, 0, SEND, 0, GIVE, 0);
        check.made(x, 0, NULL, 0, INT, 0, SEND, 1, GIVE, 0);
        check.made(x, 6, NULL, 0, INT, 0, SEND, 2, GIVE, 0);
        check.refused(x, 6, 3, NULL, 0, INT, 0, SEND, 1, GIVE, 0);
        check.refused(x, 0, 3, NULL, 0, INT, 0, SEND, 2, GIVE, 0);
        String[] takes = {"I", "I", "RI", "RI", "RI", "RI", "", "RR"};
        for (int m = 0; m < 8; m++) kindsOfMethod(classes(), m, takes[m], m >= 4 && m <= 6);
    }

    private static void kindsOfMethod(LazyCompiler x, int m, String takes, boolean givesRef) {
        for (int wrong = 0; wrong < takes.length(); wrong++) {
            x.wipe();
            for (int i = 0; i < takes.length(); i++) x.code((takes.charAt(i) == 'I') == (i != wrong) ? INT : NULL, 0);
            x.code(CALL, m);
            x.code(GIVE, 0);
            check.due("make", REFUSED, x.make(givesRef ? 6 : 0));
            check.due("place()", takes.length(), x.place());
        }
        for (int l = 0; l < 6; l++) {
            char kind = l < takes.length() ? takes.charAt(l) : 'T';
            x.wipe();
            x.code(LOAD, l);
            x.code(kind == 'I' ? POP : KEEP, 0);
            x.code(givesRef ? NULL : INT, 0);
            x.code(GIVE, 0);
            check.due("LOAD " + l + " of " + m, kind == 'T' ? REFUSED : OK, x.make(m));
            check.due("place()", kind == 'T' ? 0 : -1, x.place());
        }
        check.refused(x, m, 1, givesRef ? INT : NULL, 0, GIVE, 0);
        check.made(x, m, givesRef ? NULL : INT, 0, GIVE, 0);
        x.wipe();
        for (int i = 0; i < takes.length(); i++) x.code(takes.charAt(i) == 'I' ? INT : NULL, 0);
        x.code(CALL, m);
        x.code(GIVE, 0);
        check.due("what CALL pushes", REFUSED, x.make(givesRef ? 0 : 6));
        check.due("place()", takes.length() + 1, x.place());
        check.due("what CALL pushes", OK, x.make(givesRef ? 6 : 0));
    }

    private static void kindsAny() {
        check.part("promise 8, (c), whatever it is");
        LazyCompiler x = classes();
        // Instruction 4 has on its stack an INT or a REF.
        int[] start = {LOAD, 0, ZERO, 7, NULL, 0, GOTO, 4, DUP, 0, STORE, 5, GOTO, 9, INT, 1, GOTO, 4};
        int[] end = {POP, 0, INT, 1, GIVE, 0};
        int[] pairs = java.util.Arrays.copyOf(start, start.length + end.length);
        System.arraycopy(end, 0, pairs, start.length, end.length);
        check.made(x, 0, pairs);
        check.due("map(0, 4)", 0, x.map(0, 4));
        check.due("map(0, 9)", 0, x.map(0, 9));
        pairs[18] = GIVE;
        check.refused(x, 0, 9, pairs);
        pairs[1] = 1;
        check.refused(x, 4, 9, pairs);
        pairs[1] = 0;
        pairs[18] = POP;
        pairs[20] = LOAD;
        pairs[21] = 5;
        check.refused(x, 0, 10, pairs);
    }

    private static void kindsMeet() {
        check.part("promise 8, (c), where ways meet");
        LazyCompiler x = classes();
        check.refused(x, 1, 9, INT, 5, ZERO, 5, NULL, 0, STORE, 2, GOTO, 7, INT, 1, STORE, 2, INT, 2, POP, 0,
            LOAD, 2, GIVE, 0);
        check.refused(x, 1, 4, LOAD, 0, ZERO, 4, NULL, 0, STORE, 2, LOAD, 2, KEEP, 0, INT, 1, GIVE, 0);
        check.refused(x, 0, 0, LOAD, 0, ZERO, 4, NULL, 0, STORE, 0, GOTO, 0);
        check.refused(x, 0, 2, GOTO, 5, STORE, 0, LOAD, 0, GIVE, 0, GIVE, 0, LOAD, 0, ZERO, 9, INT, 1, GOTO, 1,
            NULL, 0, GOTO, 1);
        check.refused(x, 2, 3, GOTO, 9, INT, 5, POP, 0, LOAD, 1, POP, 0, NULL, 0, STORE, 1, GOTO, 9, GOTO, 1, GOTO, 8);
        check.refused(x, 2, 3, GOTO, 9, INT, 5, POP, 0, LOAD, 0, POP, 0, INT, 7, STORE, 0, GOTO, 9, GOTO, 1, GOTO, 8);
        check.made(x, 2, GOTO, 9, INT, 5, POP, 0, LOAD, 1, POP, 0, INT, 7, STORE, 1, GOTO, 9, GOTO, 1, GOTO, 8);
        check.made(x, 0, LOAD, 0, ZERO, 4, NULL, 0, GOTO, 5, NEW, 0, IS, 0, GIVE, 0);
        check.made(x, 2, INT, 1, STORE, 0, LOAD, 0, GIVE, 0);
        check.refused(x, 2, 3, INT, 1, STORE, 0, LOAD, 0, KEEP, 0, INT, 1, GIVE, 0);
    }

    private static void kindsBehindFault() {
        check.part("promise 8, (c), behind a fault");
        LazyCompiler x = classes();
        check.refused(x, 0, 5, GOTO, 3, THROW, 0, GIVE, 0, NULL, 0, NULL, 0, ADD, 0, GOTO, 1);
        check.refused(x, 0, 1, GOTO, 3, KEEP, 0, GOTO, 0, NULL, 0, NULL, 0, ADD, 0, GOTO, 1);
        check.refused(x, 0, 1, GOTO, 3, THROW, 0, GIVE, 0, LOAD, 5, GOTO, 1);
        check.refused(x, 0, 3, GOTO, 3, POP, 0, GOTO, 0, LOAD, 5, GOTO, 1);
        check.refused(x, 0, 4, GOTO, 3, KEEP, 0, GOTO, 0, INT, 0, GET, 1, GOTO, 1);
    }

    private static void kindsAtCatcher() {
        check.part("promise 8, (c), CATCHER");
        LazyCompiler x = classes();
        int[] pairs = {NULL, 0, STORE, 1, INT, 1, GIVE, 0, POP, 0, LOAD, 1, KEEP, 0, INT, 1, GIVE, 0};
        check.due("before STORE", REFUSED, withCatcher(x, 0, 1, 3, 4, pairs));
        check.due("place()", 5, x.place());
        check.due("before NULL", REFUSED, withCatcher(x, 0, 0, 1, 4, pairs));
        check.due("place()", 5, x.place());
        check.due("behind STORE", OK, withCatcher(x, 0, 2, 4, 4, pairs));
        check.due("map(0, 4)", 2, x.map(0, 4));
        int[] over = {INT, 5, STORE, 0, INT, 1, GIVE, 0, POP, 0, LOAD, 0, KEEP, 0, INT, 1, GIVE, 0};
        check.due("as before STORE", OK, withCatcher(x, 2, 1, 2, 4, over));
        check.due("map(2, 4)", 1, x.map(2, 4));
        check.due("on both sides", REFUSED, withCatcher(x, 2, 1, 3, 4, over));
        check.due("place()", 5, x.place());
        check.due("a goal before the range", REFUSED,
            withCatcher(x, 0, 4, 5, 1, GOTO, 5, POP, 0, LOAD, 1, GIVE, 0, GIVE, 0, INT, 1, GOTO, 4));
        check.due("place()", 2, x.place());
        check.due("an INT or a REF", REFUSED, withCatcher(x, 0, 0, 1, 1, NEW, 0, GIVE, 0));
        check.due("place()", 1, x.place());
        check.due("an INT", OK, withCatcher(x, 0, 0, 1, 3, NEW, 0, IS, 0, GIVE, 0, THROW, 0));
        check.due("map(0, 3)", 0, x.map(0, 3));
    }

    private static void places() {
        check.part("promise 8, the latest make");
        LazyCompiler x = classes();
        check.due("none yet", -1, x.place());
        check.refused(x, 0, 1, INT, 1, NONE, 0);
        check.due("place()", 1, x.place());
        check.due("no such method", REFUSED, x.make(8));
        check.due("place()", -1, x.place());
        check.due("make(0)", REFUSED, x.make(0));
        check.due("place()", 1, x.place());
        check.due("wipe()", 2, x.wipe());
        check.due("place() stays", 1, x.place());
        check.due("empty", REFUSED, x.make(0));
        check.due("place()", -1, x.place());
        check.refused(x, 0, 1, INT, 1, NONE, 0);
        check.made(x, 0, INT, 1, GIVE, 0);
        check.due("place()", -1, x.place());
    }

    private static void maps() {
        check.part("promise 11, sums");
        LazyCompiler x = classes();
        check.made(x, 7, LOAD, 1, INT, 3, LOAD, 0, FETCH, 2, NULL, 0, NEW, 0, STORE, 5, SAME, 0, GIVE, 0);
        int[] due = {3, 3 + 64, 3 + 64, 3 + 64 + 256, 3 + 64 + 256 + 512, 3 + 64 + 256 + 512 + 1024,
            3 + 64 + 256 + 512 + 1024 + 2048, 35 + 64 + 256 + 512 + 1024, 35 + 64 + 256};
        for (int at = 0; at < due.length; at++) check.due("map(7, " + at + ")", due[at], x.map(7, at));
        int[] first = {0, 0, 1, 1, 1, 1, 0, 3};
        for (int m = 0; m < 8; m++) {
            check.made(x, m, m >= 4 && m <= 6 ? NULL : INT, 0, GIVE, 0);
            check.due("map(" + m + ", 0)", first[m], x.map(m, 0));
            check.due("map(" + m + ", 1)", first[m] + (m >= 4 && m <= 6 ? 64 : 0), x.map(m, 1));
        }
        check.made(x, 2, LOAD, 1, ZERO, 4, INT, 1, STORE, 0, INT, 1, GIVE, 0);
        check.due("REF on one way only", 0, x.map(2, 4));
        check.due("map(2, 3)", 1, x.map(2, 3));
    }

    private static void mapNumbers() {
        check.part("promise 11, numbers");
        LazyCompiler x = classes();
        check.due("no body", -1, x.map(4, 0));
        check.made(x, 4, LOAD, 0, GIVE, 0, LOAD, 0);
        check.due("map(4, 0)", 1, x.map(4, 0));
        check.due("map(4, 1)", 65, x.map(4, 1));
        check.due("never reached", -1, x.map(4, 2));
        check.due("behind the last one", -1, x.map(4, 3));
        check.due("at -1", -1, x.map(4, -1));
        check.due("at 24", -1, x.map(4, 24));
        check.due("method -1", -1, x.map(-1, 0));
        check.due("method 8", -1, x.map(8, 0));
        check.refused(x, 4, 0, POP, 0);
        check.due("a REFUSED make changes none", 65, x.map(4, 1));
        check.due("the draft has none", -1, x.map(8, 0));
    }
}
