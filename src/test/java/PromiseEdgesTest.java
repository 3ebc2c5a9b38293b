/** Promises 1 to 19: for each sentence that names an edge the last value that is taken and the first that is not. */
public final class PromiseEdgesTest implements HelpOps {
    private static final int OK = LazyCompiler.OK, REFUSED = LazyCompiler.REFUSED, LONG = LazyCompiler.LONG;
    private static final int LEAST = Integer.MIN_VALUE, MOST = Integer.MAX_VALUE;
    private static final long NOTHING = LazyCompiler.NOTHING;
    private static final HelpCheck check = new HelpCheck();

    public static void main(String[] args) {
        constants();
        calls512();
        newObject();
        newObjectsApart();
        clsTwice();
        clsAfterFalse();
        slotOfNoClass();
        slotNone();
        initialiserNumbers();
        codeCounts();
        codeFull();
        codeOps();
        codeOperands();
        catcherNumbers();
        catcherOrder();
        catcherNone();
        catcherLatest();
        makeTakes();
        makeEmpty();
        makeNoMethod();
        makeStays();
        placeLatest();
        placeWithoutFault();
        wipeCounts();
        wipeCatcher();
        bodyNumbers();
        bodyOthers();
        mapBits();
        mapOthers();
        runTakes();
        runGivesRef();
        runLong();
        runNoBody();
        runNoGlobal();
        resultGiven();
        resultNothing();
        resultOfRefused();
        originNumbers();
        originNotThrown();
        originOfRefused();
        originThrownAgain();
        lookNumbers();
        lookNothing();
        goNumbers();
        goToNull();
        setNumbers();
        countDone();
        countOverAllRuns();
        countWords();
        countReady();
        countOthers();
        countAnotherBody();
        check.end();
    }

    private static HelpDraft draft(int... pairs) {
        return new HelpDraft().add(pairs);
    }

    /** Class 0 has an int and a reference, class 1 below it the same once more; GLOBAL g refers to one of class g % 2. */
    private static LazyCompiler withObjects() {
        LazyCompiler x = new LazyCompiler();
        check.due("cls(0, ..)", true, x.cls(0, -1, 1, 1));
        check.due("cls(1, ..)", true, x.cls(1, 0, 1, 1));
        draft(NEW, 0, KEEP, 0, NEW, 1, KEEP, 1, NEW, 0, KEEP, 2, NEW, 1, KEEP, 3, INT, 0, GIVE, 0).due(check, x, 0, -1);
        check.gives(x, 0, 0, 0, 0, 0);
        return x;
    }

    private static void constants() {
        check.part("the constants");
        check.due("OK", 0, LazyCompiler.OK);
        check.due("THROWN", 1, LazyCompiler.THROWN);
        check.due("LONG", 2, LazyCompiler.LONG);
        check.due("REFUSED", -1, LazyCompiler.REFUSED);
        check.due("NOTHING", 10000000000L, LazyCompiler.NOTHING);
    }

    private static void calls512() {
        check.part("at most 512 calls");
        LazyCompiler x = new LazyCompiler();
        check.due("cls(0, ..)", true, x.cls(0, -1, 2, 2));
        x.code(NEW, 0);
        x.code(KEEP, 0);
        x.code(INT, 1);
        x.code(GIVE, 0);
        check.due("make(0)", OK, x.make(0));
        // 6 calls up to here, 505 runs, and the 512th; the tenth NEW and each eighth from there on find no room.
        for (int i = 0; i < 505; i++) check.due("run(0, 0, 0, 0)", OK, x.run(0, 0, 0, 0));
        check.due("count(1)", 1 + (505 - 10) / 8, x.count(1));
    }

    // ---- promises 1 to 4 ----

    private static void newObject() {
        check.part("1: no classes, no bodies, GLOBALS are null, an empty draft without a CATCHER");
        for (int c = 0; c < 4; c++) {
            LazyCompiler x = new LazyCompiler();
            check.due("slot(" + c + ", 0, -1)", false, x.slot(c, 0, -1));
            check.due("initialiser(" + c + ", -1)", false, x.initialiser(c, -1));
            check.due("cls(" + (c + 1) % 4 + ", " + c + ", ..)", false, x.cls((c + 1) % 4, c, 0, 0));
            draft(GOTO, 0, NEW, c).due(check, x, 0, 1);
            check.due("cls(" + c + ", ..)", true, x.cls(c, -1, 0, 0));
        }
        for (int m = 0; m < 8; m++) {
            LazyCompiler x = new LazyCompiler();
            check.due("body(" + m + ", 0)", -1, x.body(m, 0));
            check.due("body(" + m + ", 1)", -1, x.body(m, 1));
            check.due("map(" + m + ", 0)", -1, x.map(m, 0));
            check.due("run(" + m + ", ..)", REFUSED, x.run(m, 0, 0, 0));
        }
        for (int g = 0; g < 4; g++) {
            LazyCompiler x = new LazyCompiler();
            check.due("look(" + g + ", 0)", NOTHING, x.look(g, 0));
            check.due("go(" + g + ", 0)", false, x.go(g, 0));
            draft(FETCH, g, NONE, 4, INT, 1, GIVE, 0, INT, 2, GIVE, 0).due(check, x, 0, -1);
            check.gives(x, 0, 0, 0, 0, 2);
        }
        check.due("wipe()", 0, new LazyCompiler().wipe());
        check.due("make(0)", REFUSED, new LazyCompiler().make(0));
        check.due("place()", -1, new LazyCompiler().place());
        check.due("result()", NOTHING, new LazyCompiler().result());
        check.due("origin()", -1, new LazyCompiler().origin());
        for (int what = 0; what < 7; what++) check.due("count(" + what + ")", 0, new LazyCompiler().count(what));
        LazyCompiler x = new LazyCompiler();
        check.due("code", 1, x.code(INT, 5));
        check.due("code", 2, x.code(THROW, 0));
        check.due("make(0)", OK, x.make(0));
        check.throwsOut(x, 0, 0, 0, 5, 1);
    }

    private static void newObjectsApart() {
        check.part("1: a new object, while there is another");
        LazyCompiler other = withObjects();
        check.draft(other, GOTO, 0);
        check.due("catcher", true, other.catcher(0, 1, 0));
        newObject();
        check.due("the other one", 1, other.look(1, 0));
        check.due("its draft", 1, other.wipe());
    }

    private static void clsTwice() {
        check.part("2: false if it is there already");
        for (int c = 0; c < 4; c++) {
            LazyCompiler x = new LazyCompiler();
            check.due("cls(" + c + ", -1, 1, 0)", true, x.cls(c, -1, 1, 0));
            check.due("the same once more", false, x.cls(c, -1, 1, 0));
            check.due("another one", false, x.cls(c, -1, 2, 2));
            draft(NEW, c, GIVE, 0).due(check, x, 6, -1);
            check.gives(x, 6, 0, 0, 0, c);
            check.due("words", 2, x.count(3));
        }
    }

    private static void clsAfterFalse() {
        check.part("2: false, and it is not there");
        int[][] wrong = {{-2, 0, 0}, {0, 0, 0}, {1, 0, 0}, {4, 0, 0}, {-1, -1, 0}, {-1, 3, 0}, {-1, 0, -1}, {-1, 0, 3}};
        for (int[] w : wrong) {
            LazyCompiler x = new LazyCompiler();
            check.due("cls(0, ..)", false, x.cls(0, w[0], w[1], w[2]));
            check.due("not there", false, x.slot(0, 0, -1));
            check.due("none below it", false, x.cls(1, 0, 0, 0));
            check.due("cls(0, -1, 2, 1)", true, x.cls(0, -1, 2, 1));
            check.due("there", true, x.slot(0, 0, -1));
            draft(NEW, 0, GIVE, 0).due(check, x, 6, -1);
            check.gives(x, 6, 0, 0, 0, 0);
            check.due("words", 4, x.count(3));
        }
    }

    private static void slotOfNoClass() {
        check.part("3: false if it is not there");
        LazyCompiler x = new LazyCompiler();
        check.due("cls(2, ..)", true, x.cls(2, -1, 0, 0));
        for (int c : new int[] {LEAST, -1, 0, 1, 3, 4, MOST}) {
            for (int m = -1; m < 6; m++) check.due("slot(" + c + ", 0, " + m + ")", false, x.slot(c, 0, m));
        }
        check.due("slot(2, 0, 2)", true, x.slot(2, 0, 2));
    }

    private static void slotNone() {
        check.part("3: or (m -1) none");
        LazyCompiler x = withObjects();
        draft(INT, 22, GIVE, 0).due(check, x, 2, -1);
        draft(LOAD, 0, INT, 0, SEND, 0, GIVE, 0).due(check, x, 7, -1);
        check.due("none before", true, x.slot(0, 0, -1));
        check.throwsOut(x, 7, 0, 0, 4, 7 * 32 + 2);
        check.due("slot(0, 0, 2)", true, x.slot(0, 0, 2));
        check.gives(x, 7, 0, 0, 0, 22);
        check.due("m -2", false, x.slot(0, 0, -2));
        check.gives(x, 7, 0, 0, 0, 22);
        check.due("m -1", true, x.slot(0, 0, -1));
        check.throwsOut(x, 7, 0, 0, 4, 7 * 32 + 2);
    }

    private static void initialiserNumbers() {
        check.part("4: method m, 0 or 1, or (-1) it has none; false if c is not there, or m is another one");
        for (int m : new int[] {LEAST, -2, -1, 0, 1, 2, 7, 8, MOST}) {
            LazyCompiler x = new LazyCompiler();
            check.due("not there", false, x.initialiser(1, m));
            check.due("cls(1, ..)", true, x.cls(1, -1, 0, 0));
            check.due("initialiser(1, " + m + ")", m >= -1 && m <= 1, x.initialiser(1, m));
            for (int c : new int[] {LEAST, -1, 0, 2, 4, MOST}) check.due("class " + c, false, x.initialiser(c, m));
            for (int k = 0; k < 2; k++) draft(INT, 30 + k, THROW, 0).due(check, x, k, -1);
            draft(NEW, 1, GIVE, 0).due(check, x, 6, -1);
            if (m == 0 || m == 1) check.throwsOut(x, 6, 0, 0, 30 + m, 32 * m + 1);
            else check.gives(x, 6, 0, 0, 0, 1);
        }
    }

    // ---- promises 5 and 6 ----

    private static void codeCounts() {
        check.part("5: the draft gets one more instruction: how many it has");
        LazyCompiler x = new LazyCompiler();
        for (int i = 1; i <= 24; i++) check.due("code", i, x.code(GOTO, 24 - i));
        check.due("wipe()", 24, x.wipe());
        check.due("code", 1, x.code(GOTO, 0));
        check.due("make(0)", OK, x.make(0));
        check.due("code", 1, x.code(GOTO, 1));
        check.due("make(0)", REFUSED, x.make(0));
        check.due("code", 2, x.code(GOTO, 0));
        check.due("make(0)", OK, x.make(0));
    }

    private static void codeFull() {
        check.part("5: REFUSED if it has 24");
        LazyCompiler x = new LazyCompiler();
        for (int i = 1; i <= 22; i++) check.due("code", i, x.code(GOTO, 22));
        check.due("code", 23, x.code(INT, 46));
        check.due("code", 24, x.code(GIVE, 0));
        for (int op = 0; op < 24; op++) check.due("code(" + op + ", 0)", REFUSED, x.code(op, 0));
        check.due("make(0)", OK, x.make(0));
        check.due("body(0, 0)", 24, x.body(0, 0));
        check.gives(x, 0, 0, 0, 0, 46);
        // Bodies of 24 in all methods: neither they nor the draft have anything of each other.
        x = new LazyCompiler();
        for (int m = 0; m < 8; m++) draft().times(23, GOTO, 23).add(GOTO, 23).due(check, x, m, -1);
        draft(GOTO, 1).due(check, x, 7, 0);
        draft(GOTO, 0, NEW, 0).due(check, x, 0, 1);
        for (int m = 0; m < 8; m++) {
            check.due("body(" + m + ", 0)", 24, x.body(m, 0));
            check.due("map(" + m + ", 22)", -1, x.map(m, 22));
            check.due("run(" + m + ", ..)", LONG, x.run(m, 0, 0, 0));
        }
    }

    private static void codeOps() {
        check.part("5: REFUSED if there is no such op");
        LazyCompiler x = new LazyCompiler();
        for (int op : new int[] {LEAST, -1, 24, 25, MOST}) check.due("op " + op, REFUSED, x.code(op, 0));
        for (int op = 0; op < 24; op++) check.due("op " + op, op + 1, x.code(op, 0));
    }

    private static void codeOperands() {
        check.part("5: a is not 0..5, 0..23, 0..3, 0..63, 0..7");
        int any = -1;
        int[] most = {any, any, 5, 5, any, any, any, any, 23, 23, 23, any, 3, 63, 63, 3, 7, 3, any, any, any, any, 3, 3};
        for (int op = 0; op < 24; op++) {
            LazyCompiler x = new LazyCompiler();
            int[] edges = {LEAST, -1, 0, most[op], most[op] + 1, MOST};
            int count = 0;
            for (int a : edges) {
                boolean due = most[op] == any || a >= 0 && a <= most[op];
                if (due) count++;
                check.due("code(" + op + ", " + a + ")", due ? count : REFUSED, x.code(op, a));
            }
            check.due("wipe()", count, x.wipe());
        }
    }

    private static void catcherNumbers() {
        check.part("6: false if a number is not 0..24");
        int[] numbers = {LEAST, -1, 0, 24, 25, MOST};
        for (int from : numbers) {
            for (int to : numbers) {
                for (int goal : numbers) {
                    boolean there = from >= 0 && from <= 24 && to >= 0 && to <= 24 && goal >= 0 && goal <= 24;
                    String call = "catcher(" + from + ", " + to + ", " + goal + ")";
                    check.due(call, there && from <= to, new LazyCompiler().catcher(from, to, goal));
                }
            }
        }
    }

    private static void catcherOrder() {
        check.part("6: or the first one is greater");
        for (int from = 0; from <= 24; from++) {
            for (int to = Math.max(0, from - 1); to <= Math.min(24, from + 1); to++) {
                check.due("catcher(" + from + ", " + to + ", 0)", from <= to, new LazyCompiler().catcher(from, to, 0));
            }
        }
    }

    /** Divides 1 by what it gets; a CATCHER at 4 gives 10 more than what is thrown, one at 6 gives it. */
    private static LazyCompiler dividing() {
        LazyCompiler x = new LazyCompiler();
        check.draft(x, INT, 1, LOAD, 0, DIV, 0, GIVE, 0, INT, 10, ADD, 0, GIVE, 0);
        return x;
    }

    private static void catcherNone() {
        check.part("6: none if both are the same");
        for (int both = 0; both <= 24; both++) {
            LazyCompiler x = dividing();
            check.due("catcher(2, 3, 4)", true, x.catcher(2, 3, 4));
            check.due("catcher(" + both + ", " + both + ", 24)", true, x.catcher(both, both, 24));
            check.due("make(0)", OK, x.make(0));
            check.throwsOut(x, 0, 0, 0, 1, 2);
        }
    }

    private static void catcherLatest() {
        check.part("6: instructions from one on and below another one of the draft have the CATCHER at a goal");
        LazyCompiler x = dividing();
        check.due("catcher(2, 3, 6)", true, x.catcher(2, 3, 6));
        check.due("the latest one", true, x.catcher(2, 3, 4));
        check.due("a wrong one", false, x.catcher(2, 3, 25));
        check.due("a wrong one", false, x.catcher(3, 2, 6));
        check.due("make(0)", OK, x.make(0));
        check.gives(x, 0, 0, 0, 0, 11);
        x = new LazyCompiler();
        check.due("before there is an instruction", true, x.catcher(2, 3, 4));
        for (int[] i : new int[][] {{INT, 1}, {LOAD, 0}, {DIV, 0}, {GIVE, 0}, {INT, 10}, {ADD, 0}, {GIVE, 0}}) {
            x.code(i[0], i[1]);
        }
        check.due("make(0)", OK, x.make(0));
        check.gives(x, 0, 0, 0, 0, 11);
        x = dividing();
        check.due("up to the last one", true, x.catcher(2, 7, 4));
        check.due("make(0)", OK, x.make(0));
        check.gives(x, 0, 0, 0, 0, 11);
    }

    // ---- promises 7 to 11 ----

    private static void makeTakes() {
        check.part("7: the draft, with its CATCHER, is the body of method m, and is empty then: OK");
        for (int m = 0; m < 8; m++) {
            boolean givesRef = m >= 4 && m <= 6;
            LazyCompiler x = new LazyCompiler();
            check.draft(x, INT, 5, THROW, 0, POP, 0, givesRef ? NULL : INT, 6, GIVE, 0);
            check.due("catcher(1, 2, 2)", true, x.catcher(1, 2, 2));
            check.due("make(" + m + ")", OK, x.make(m));
            check.due("the draft", 0, x.wipe());
            for (int k = 0; k < 8; k++) check.due("body(" + k + ", 0)", k == m ? 5 : -1, x.body(k, 0));
            check.gives(x, m, 0, 0, 0, givesRef ? -1 : 6);
            // After make has answered OK the draft has no CATCHER any more.
            check.due("code", 1, x.code(INT, 5));
            check.due("code", 2, x.code(THROW, 0));
            check.due("make(" + m + ")", OK, x.make(m));
            check.throwsOut(x, m, 0, 0, 5, 32 * m + 1);
            check.due("one instruction", 1, x.code(GOTO, 0));
            check.due("make(" + m + ")", OK, x.make(m));
            check.due("body(" + m + ", 0)", 1, x.body(m, 0));
        }
    }

    private static void makeEmpty() {
        check.part("7: REFUSED if it is empty");
        LazyCompiler x = new LazyCompiler();
        for (int m = 0; m < 8; m++) check.due("make(" + m + ")", REFUSED, x.make(m));
        check.due("catcher(0, 1, 0)", true, x.catcher(0, 1, 0));
        check.due("with a CATCHER that is not there", REFUSED, x.make(0));
        check.due("place()", -1, x.place());
        check.due("code", 1, x.code(THROW, 0));
        check.due("the CATCHER stays", REFUSED, x.make(0));
        check.due("place()", 0, x.place());
        check.due("wipe()", 1, x.wipe());
        draft(INT, 3, GIVE, 0).due(check, x, 0, -1);
        check.due("empty", REFUSED, x.make(0));
        check.gives(x, 0, 0, 0, 0, 3);
    }

    private static void makeNoMethod() {
        check.part("7: or there is no such method");
        for (int m : new int[] {LEAST, -1, 8, 9, MOST}) {
            LazyCompiler x = new LazyCompiler();
            check.draft(x, INT, 5, GIVE, 0);
            check.due("make(" + m + ")", REFUSED, x.make(m));
            check.due("make(7)", OK, x.make(7));
            check.gives(x, 7, 0, 0, 0, 5);
        }
    }

    private static void makeStays() {
        check.part("7: then all stays as it is");
        LazyCompiler x = new LazyCompiler();
        draft(INT, 3, GIVE, 0, GOTO, 2).due(check, x, 7, -1);
        check.draft(x, INT, 5, THROW, 0, INT, 1, ADD, 0, GIVE, 0);
        check.due("catcher(1, 2, 2)", true, x.catcher(1, 2, 2));
        check.due("gives a REF", REFUSED, x.make(6));
        check.due("no body", -1, x.body(6, 0));
        check.due("another body", 3, x.body(7, 0));
        check.due("code", 6, x.code(GOTO, 6));
        check.due("goes to what is not there", REFUSED, x.make(7));
        check.due("the body before", 3, x.body(7, 0));
        check.due("map(7, 2)", -1, x.map(7, 2));
        check.gives(x, 7, 0, 0, 0, 3);
        check.due("code", 7, x.code(GOTO, 6));
        check.due("make(7)", OK, x.make(7));
        check.due("body(7, 0)", 7, x.body(7, 0));
        check.gives(x, 7, 0, 0, 0, 6);
    }

    private static void placeLatest() {
        check.part("8: the latest make");
        LazyCompiler x = new LazyCompiler();
        draft(INT, 1, GIVE, 0, GOTO, 3).due(check, x, 0, 2);
        check.due("place() once more", 2, x.place());
        draft(NULL, 0, GIVE, 0).due(check, x, 0, 1);
        check.due("make(6)", OK, x.make(6));
        check.due("place()", -1, x.place());
        draft(GIVE, 0).due(check, x, 0, 0);
        check.due("wipe()", 1, x.wipe());
        check.due("after wipe", 0, x.place());
        check.due("code", 1, x.code(GOTO, 0));
        check.due("after code", 0, x.place());
        check.due("catcher", true, x.catcher(0, 1, 0));
        check.due("after catcher", 0, x.place());
        check.due("run(6, ..)", OK, x.run(6, 0, 0, 0));
        check.due("after run", 0, x.place());
    }

    private static void placeWithoutFault() {
        check.part("19: place: -1 also after a make that was REFUSED because the draft was empty or there is no such method");
        for (int m : new int[] {-1, 8}) {
            LazyCompiler x = new LazyCompiler();
            draft(GIVE, 0).due(check, x, 0, 0);
            check.due("make(" + m + ")", REFUSED, x.make(m));
            check.due("place()", -1, x.place());
            check.due("make(0)", REFUSED, x.make(0));
            check.due("place()", 0, x.place());
            check.due("wipe()", 1, x.wipe());
            check.due("make(0)", REFUSED, x.make(0));
            check.due("place()", -1, x.place());
            check.due("make(" + m + ")", REFUSED, x.make(m));
            check.due("place()", -1, x.place());
        }
    }

    private static void wipeCounts() {
        check.part("9: how many instructions it had");
        for (int length : new int[] {0, 1, 2, 23, 24}) {
            LazyCompiler x = new LazyCompiler();
            for (int i = 0; i < length; i++) x.code(POP, 0);
            check.due("wipe()", length, x.wipe());
            check.due("wipe() once more", 0, x.wipe());
            check.due("code", 1, x.code(GOTO, 0));
        }
    }

    private static void wipeCatcher() {
        check.part("9: the draft is empty, and has no CATCHER");
        LazyCompiler x = dividing();
        check.due("catcher(2, 3, 4)", true, x.catcher(2, 3, 4));
        check.due("wipe()", 7, x.wipe());
        check.due("make(0)", REFUSED, x.make(0));
        draft(INT, 1, LOAD, 0, DIV, 0, GIVE, 0).due(check, x, 0, -1);
        check.throwsOut(x, 0, 0, 0, 1, 2);
        check.due("a CATCHER without a draft", true, x.catcher(0, 24, 24));
        check.due("wipe()", 0, x.wipe());
        check.due("code", 1, x.code(GOTO, 0));
        check.due("make(0)", OK, x.make(0));
    }

    private static void bodyNumbers() {
        check.part("10: what 0: how many instructions, 1: the words of its frame");
        LazyCompiler x = new LazyCompiler();
        for (int length = 1; length <= 24; length++) {
            draft().times(length, GOTO, 0).due(check, x, 7, -1);
            check.due("body(7, 0)", length, x.body(7, 0));
        }
        for (int height = 0; height <= 6; height++) {
            draft().times(height, INT, 1).add(GOTO, height).due(check, x, 7, -1);
            check.due("body(7, 1)", 9 + height, x.body(7, 1));
        }
    }

    private static void bodyOthers() {
        check.part("10: NONE is -1: there is no body, or others");
        for (int m = 0; m < 8; m++) {
            LazyCompiler x = new LazyCompiler();
            draft(GOTO, 0).due(check, x, m, -1);
            for (int what : new int[] {LEAST, -1, 2, MOST}) check.due("body(" + m + ", " + what + ")", -1, x.body(m, what));
            for (int k : new int[] {LEAST, -1, (m + 1) % 8, (m + 7) % 8, 8, MOST}) {
                check.due("body(" + k + ", 0)", -1, x.body(k, 0));
                check.due("body(" + k + ", 1)", -1, x.body(k, 1));
            }
            check.due("body(" + m + ", 0)", 1, x.body(m, 0));
            check.due("body(" + m + ", 1)", 9, x.body(m, 1));
        }
    }

    private static void mapBits() {
        check.part("11: 2 to the power l for LOCALS that are REF, and 2 to the power 6 + k for stack entries (0 lowest)");
        LazyCompiler x = new LazyCompiler();
        for (int l = 0; l < 6; l++) {
            draft(NULL, 0, STORE, l, GOTO, 2).due(check, x, 0, -1);
            check.due("map(0, 0)", 0, x.map(0, 0));
            check.due("map(0, 1)", 64, x.map(0, 1));
            check.due("map(0, 2)", 1 << l, x.map(0, 2));
        }
        for (int k = 0; k < 6; k++) {
            draft().times(k, INT, 1).add(NULL, 0, GOTO, k + 1).due(check, x, 0, -1);
            for (int at = 0; at <= k; at++) check.due("map(0, " + at + ")", 0, x.map(0, at));
            check.due("map(0, " + (k + 1) + ")", 64 << k, x.map(0, k + 1));
        }
        HelpDraft all = draft();
        for (int l = 0; l < 6; l++) all.add(NULL, 0, STORE, l);
        all.times(6, NULL, 0).add(GOTO, 18).due(check, x, 0, -1);
        check.due("all of them", 4095, x.map(0, 18));
    }

    private static void mapOthers() {
        check.part("11: -1 if there is no such body or instruction, or it is never reached");
        for (int m = 0; m < 8; m++) {
            LazyCompiler x = new LazyCompiler();
            for (int at : new int[] {-1, 0, 23, 24}) check.due("map(" + m + ", " + at + ")", -1, x.map(m, at));
            draft(GOTO, 2, GOTO, 2, GOTO, 2).due(check, x, m, -1);
            int due = m == 7 ? 3 : m >= 2 && m <= 5 ? 1 : 0;
            int[] places = {LEAST, -1, 0, 1, 2, 3, 4, 23, 24, MOST};
            for (int at : places) check.due("map(" + m + ", " + at + ")", at == 0 || at == 2 ? due : -1, x.map(m, at));
            for (int k : new int[] {LEAST, -1, (m + 1) % 8, 8, MOST}) check.due("map(" + k + ", 0)", -1, x.map(k, 0));
        }
        LazyCompiler x = new LazyCompiler();
        draft().times(23, GOTO, 23).add(GOTO, 23).due(check, x, 7, -1);
        check.due("map(7, 22)", -1, x.map(7, 22));
        check.due("map(7, 23)", 3, x.map(7, 23));
        check.due("map(7, 24)", -1, x.map(7, 24));
        // A shorter body: what the longer one had is not there any more.
        draft(GOTO, 0).due(check, x, 7, -1);
        check.due("map(7, 0)", 3, x.map(7, 0));
        check.due("map(7, 23)", -1, x.map(7, 23));
    }

    // ---- promises 12 to 14 ----

    private static void runTakes() {
        check.part("12: with what GLOBALS g and h refer to for REFs, and x for an INT");
        LazyCompiler x = withObjects();
        check.due("set(3, -1)", true, x.set(3, -1));
        draft(LOAD, 0, KEEP, 3, LOAD, 1, GIVE, 0).due(check, x, 2, -1);
        int[] classes = {0, 1, 0};
        for (int g = 0; g < 3; g++) {
            for (int value : new int[] {LEAST, -1, 0, 1, MOST}) check.gives(x, 2, g, 3 - g, value, value);
            check.due("look(3, 0)", classes[g], x.look(3, 0));
        }
        check.due("set(3, -1)", true, x.set(3, -1));
        check.gives(x, 2, 3, 0, 5, 5);
        check.due("null", NOTHING, x.look(3, 0));
        x = withObjects();
        draft(LOAD, 0, LOAD, 1, SAME, 0, LOAD, 0, FETCH, 2, SAME, 0, DUP, 0, ADD, 0, ADD, 0, LOAD, 1, FETCH, 3, SAME, 0,
            DUP, 0, ADD, 0, DUP, 0, ADD, 0, ADD, 0, GIVE, 0).due(check, x, 7, -1);
        for (int g = 0; g < 4; g++) {
            for (int h = 0; h < 4; h++) {
                check.gives(x, 7, g, h, 9, (g == h ? 1 : 0) + (g == 2 ? 2 : 0) + (h == 3 ? 4 : 0));
            }
        }
    }

    private static void runGivesRef() {
        check.part("12: if it gives REF, GLOBAL 3 refers to that then");
        for (int m = 4; m < 7; m++) {
            LazyCompiler x = withObjects();
            draft(FETCH, 2, GIVE, 0).due(check, x, m, -1);
            check.gives(x, m, 0, 1, 0, 0);
            check.due("GLOBAL 3", 0, x.look(3, 0));
            draft(NULL, 0, GIVE, 0).due(check, x, m, -1);
            check.gives(x, m, 0, 1, 0, -1);
            check.due("GLOBAL 3", NOTHING, x.look(3, 0));
            for (int g = 0; g < 3; g++) check.due("the others", g % 2, x.look(g, 0));
            draft(INT, 1, THROW, 0).due(check, x, m, -1);
            check.due("set(3, 1)", true, x.set(3, 1));
            check.throwsOut(x, m, 0, 0, 1, 32 * m + 1);
            check.due("not when it is THROWN", 1, x.look(3, 0));
            draft(GOTO, 0).due(check, x, m, -1);
            check.due("run", LONG, x.run(m, 0, 0, 0));
            check.due("not when it is LONG", 1, x.look(3, 0));
        }
        for (int m : new int[] {0, 1, 2, 3, 7}) {
            LazyCompiler x = withObjects();
            draft(INT, 1, GIVE, 0).due(check, x, m, -1);
            check.gives(x, m, 0, 0, 0, 1);
            check.due("not when it gives INT", 1, x.look(3, 0));
        }
    }

    /** Method 0 does 2 + 7 * 142 + 2 = 998 instructions, and those at the end. */
    private static LazyCompiler counting(int... end) {
        LazyCompiler x = new LazyCompiler();
        draft(INT, 142, STORE, 0, LOAD, 0, ZERO, 9, LOAD, 0, INT, 1, SUB, 0, STORE, 0, GOTO, 2).add(end).due(check, x, 0, -1);
        return x;
    }

    private static void runLong() {
        check.part("12: LONG if 1000 instructions were done and it has not ended");
        LazyCompiler x = counting(INT, 5, GIVE, 0);
        check.gives(x, 0, 0, 0, 0, 5);
        check.due("count(0)", 1000, x.count(0));
        x = counting(GOTO, 10, INT, 5, GIVE, 0);
        check.due("1001, GIVE", LONG, x.run(0, 0, 0, 0));
        check.due("count(0)", 1000, x.count(0));
        x = counting(INT, 5, THROW, 0);
        check.throwsOut(x, 0, 0, 0, 5, 10);
        check.due("count(0)", 1000, x.count(0));
        x = counting(GOTO, 10, INT, 5, THROW, 0);
        check.due("1001, THROW", LONG, x.run(0, 0, 0, 0));
        check.due("result()", NOTHING, x.result());
        check.due("origin()", -1, x.origin());
        check.due("count(0)", 1000, x.count(0));
        // What the 1000th instruction does is done, what the next one would do is not.
        for (int before = 998; before <= 1000; before++) {
            x = new LazyCompiler();
            check.due("cls(0, ..)", true, x.cls(0, -1, 0, 0));
            HelpDraft d = draft(INT, 142, STORE, 0, LOAD, 0, ZERO, 9, LOAD, 0, INT, 1, SUB, 0, STORE, 0, GOTO, 2);
            for (int i = 998; i < before; i++) d.add(GOTO, d.size() + 1);
            d.add(NEW, 0, KEEP, 1, GOTO, d.size() + 2).due(check, x, 0, -1);
            check.due("run", LONG, x.run(0, 0, 0, 0));
            check.due("NEW is instruction " + (before + 1), before + 1 <= 1000 ? 1 : 0, x.count(3));
            check.due("KEEP is instruction " + (before + 2), before + 2 <= 1000 ? 0 : NOTHING, x.look(1, 0));
        }
        x = new LazyCompiler();
        draft(GOTO, 0).due(check, x, 0, -1);
        check.due("run", LONG, x.run(0, 0, 0, 0));
        draft(INT, 1, GIVE, 0).due(check, x, 0, -1);
        check.gives(x, 0, 0, 0, 0, 1);
        check.due("anew", 2, x.count(0));
    }

    private static void runNoBody() {
        check.part("12: REFUSED if there is no such body");
        for (int m = 0; m < 8; m++) {
            LazyCompiler x = new LazyCompiler();
            draft(GOTO, 0).due(check, x, m, -1);
            for (int k : new int[] {LEAST, -1, (m + 1) % 8, (m + 7) % 8, 8, MOST}) {
                check.due("run(" + k + ", ..)", REFUSED, x.run(k, 0, 0, 0));
            }
            check.due("run(" + m + ", ..)", LONG, x.run(m, 0, 0, 0));
        }
    }

    private static void runNoGlobal() {
        check.part("12: or GLOBAL (needed or not)");
        int[] numbers = {LEAST, -1, 0, 3, 4, MOST};
        for (int m = 0; m < 8; m++) {
            LazyCompiler x = new LazyCompiler();
            draft(m >= 4 && m <= 6 ? NULL : INT, 2, GIVE, 0).due(check, x, m, -1);
            for (int g : numbers) {
                for (int h : numbers) {
                    boolean there = g >= 0 && g < 4 && h >= 0 && h < 4;
                    check.due("run(" + m + ", " + g + ", " + h + ", 0)", there ? OK : REFUSED, x.run(m, g, h, 0));
                }
            }
        }
    }

    private static void resultGiven() {
        check.part("13: the INT that was given or thrown; the class of the object given, -1 for null");
        LazyCompiler x = new LazyCompiler();
        draft(LOAD, 0, GIVE, 0).due(check, x, 0, -1);
        draft(LOAD, 0, THROW, 0).due(check, x, 1, -1);
        for (int value : new int[] {LEAST, -1, 0, 1, MOST}) {
            check.gives(x, 0, 0, 0, value, value);
            check.throwsOut(x, 1, 0, value, value, 33);
        }
        for (int c = 0; c < 4; c++) {
            check.due("cls(" + c + ", ..)", true, x.cls(c, -1, 0, 0));
            draft(NEW, c, GIVE, 0).due(check, x, 6, -1);
            check.gives(x, 6, 0, 0, 0, c);
        }
        draft(NULL, 0, GIVE, 0).due(check, x, 6, -1);
        check.gives(x, 6, 0, 0, 0, -1);
        draft(INT, 3, THROW, 0).due(check, x, 6, -1);
        check.throwsOut(x, 6, 0, 0, 3, 6 * 32 + 1);
    }

    private static void resultNothing() {
        check.part("13: NOTHING if it was LONG, or there was none");
        LazyCompiler x = new LazyCompiler();
        check.due("none", NOTHING, x.result());
        check.due("run", REFUSED, x.run(0, 0, 0, 0));
        check.due("none but a REFUSED one", NOTHING, x.result());
        draft(LOAD, 0, ZERO, 0, LOAD, 0, GIVE, 0).due(check, x, 0, -1);
        check.gives(x, 0, 0, 0, 4, 4);
        check.due("run", LONG, x.run(0, 0, 0, 0));
        check.due("LONG", NOTHING, x.result());
        check.due("run", REFUSED, x.run(8, 0, 0, 0));
        check.due("still", NOTHING, x.result());
        check.gives(x, 0, 0, 0, 4, 4);
    }

    private static void resultOfRefused() {
        check.part("13: of the latest run that was not REFUSED");
        LazyCompiler x = new LazyCompiler();
        draft(LOAD, 0, GIVE, 0).due(check, x, 0, -1);
        check.gives(x, 0, 0, 0, 4, 4);
        int[][] wrong = {{-1, 0, 0}, {1, 0, 0}, {8, 0, 0}, {0, -1, 0}, {0, 4, 0}, {0, 0, -1}, {0, 0, 4}};
        for (int[] w : wrong) {
            check.due("run", REFUSED, x.run(w[0], w[1], w[2], 9));
            check.due("result()", 4, x.result());
            check.due("origin()", -1, x.origin());
            check.due("count(0)", 2, x.count(0));
        }
    }

    private static void originNumbers() {
        check.part("14: 32 times the method and the instruction");
        for (int m = 0; m < 8; m++) {
            LazyCompiler x = new LazyCompiler();
            draft().times(22, GOTO, 22).add(INT, 9, THROW, 0).due(check, x, m, -1);
            check.throwsOut(x, m, 0, 0, 9, 32 * m + 23);
            if (m == 6) continue;
            draft(CALL, 6, GOTO, 1).due(check, x, m, -1);
            check.throwsOut(x, m, 0, 0, 4, 32 * m);
        }
    }

    private static void originNotThrown() {
        check.part("14: -1 if it wasn't THROWN");
        LazyCompiler x = new LazyCompiler();
        draft(LOAD, 0, ZERO, 4, LOAD, 0, GIVE, 0, LOAD, 0, THROW, 0).due(check, x, 0, -1);
        draft(GOTO, 0).due(check, x, 1, -1);
        check.due("none", -1, x.origin());
        check.throwsOut(x, 0, 0, 0, 0, 5);
        check.gives(x, 0, 0, 0, 2, 2);
        check.throwsOut(x, 0, 0, 0, 0, 5);
        check.due("run", LONG, x.run(1, 0, 0, 0));
        check.due("LONG", -1, x.origin());
        // Thrown, but it did not come out.
        draft(INT, 5, THROW, 0, GIVE, 0).catcher(1, 2, 2).due(check, x, 0, -1);
        check.gives(x, 0, 0, 0, 0, 5);
    }

    private static void originOfRefused() {
        check.part("14: that run, which was not REFUSED");
        LazyCompiler x = new LazyCompiler();
        draft(LOAD, 0, THROW, 0).due(check, x, 1, -1);
        check.throwsOut(x, 1, 0, 7, 7, 33);
        check.due("run", REFUSED, x.run(1, 0, 4, 8));
        check.due("origin()", 33, x.origin());
        check.due("result()", 7, x.result());
        check.due("count(0)", 2, x.count(0));
    }

    private static void originThrownAgain() {
        check.part("19: what a CATCHER got and THROW throws again counts as first thrown at that THROW");
        LazyCompiler x = new LazyCompiler();
        draft(LOAD, 0, THROW, 0).due(check, x, 0, -1);
        draft(LOAD, 0, CALL, 0, GIVE, 0).due(check, x, 1, -1);
        check.throwsOut(x, 1, 0, 6, 6, 1);
        draft(LOAD, 0, CALL, 0, GIVE, 0, POP, 0, LOAD, 0, THROW, 0).catcher(1, 2, 3).due(check, x, 1, -1);
        check.throwsOut(x, 1, 0, 6, 6, 32 + 5);
        draft(LOAD, 0, CALL, 0, GIVE, 0, THROW, 0).catcher(1, 2, 3).due(check, x, 1, -1);
        check.throwsOut(x, 1, 0, 6, 6, 32 + 3);
        // Through a method that does not catch it, to one that throws it again, and out of one that does not.
        draft(LOAD, 1, CALL, 1, GIVE, 0).due(check, x, 2, -1);
        check.throwsOut(x, 2, 0, 6, 6, 32 + 3);
        draft(LOAD, 1, CALL, 1, GIVE, 0, THROW, 0).catcher(1, 2, 3).due(check, x, 2, -1);
        check.throwsOut(x, 2, 0, 6, 6, 64 + 3);
        // What the goal throws by something else than THROW is first thrown there, too.
        draft(LOAD, 0, CALL, 0, GIVE, 0, INT, 0, DIV, 0, GIVE, 0).catcher(1, 2, 3).due(check, x, 1, -1);
        check.throwsOut(x, 1, 0, 6, 1, 32 + 4);
    }

    // ---- promises 15 to 17 ----

    private static void lookNumbers() {
        check.part("15: what 0: its class; 1 and more: FIELD what - 1, an int, or the class of the object there (-1 for null)");
        LazyCompiler x = new LazyCompiler();
        for (int c = 0; c < 4; c++) check.due("cls(" + c + ", ..)", true, x.cls(c, c - 1, 2, 2));
        for (int c = 0; c < 4; c++) {
            draft(NEW, c, STORE, 1, LOAD, 1, LOAD, 0, PUT, 20 * c, LOAD, 1, INT, MOST, PUT, 20 * c + 1,
                LOAD, 1, LOAD, 1, PUT, 20 * c + 3, LOAD, 1, KEEP, c, INT, 0, GIVE, 0).due(check, x, 0, -1);
            if (c == 2) check.due("set(0, -1)", true, x.set(0, -1));
            if (c == 3) check.due("set(1, -1)", true, x.set(1, -1));
            check.gives(x, 0, 0, 0, LEAST + c, 0);
            check.due("what 0", c, x.look(c, 0));
            int last = 4 * c;
            check.due("the first own int", LEAST + c, x.look(c, last + 1));
            check.due("the last own int", MOST, x.look(c, last + 2));
            check.due("null", -1, x.look(c, last + 3));
            check.due("the last one", c, x.look(c, last + 4));
            check.due("one more", NOTHING, x.look(c, last + 5));
            check.due("what -1", NOTHING, x.look(c, -1));
            check.due("least", NOTHING, x.look(c, LEAST));
            check.due("most", NOTHING, x.look(c, MOST));
            for (int what = 1; what <= last; what++) {
                check.due("from above", what % 4 == 1 || what % 4 == 2 ? 0 : -1, x.look(c, what));
            }
        }
        x = new LazyCompiler();
        check.due("cls(0, ..)", true, x.cls(0, -1, 0, 0));
        draft(NEW, 0, GIVE, 0).due(check, x, 6, -1);
        check.gives(x, 6, 0, 0, 0, 0);
        check.due("what 0", 0, x.look(3, 0));
        check.due("no FIELD at all", NOTHING, x.look(3, 1));
    }

    private static void lookNothing() {
        check.part("15: NOTHING if there is none");
        LazyCompiler x = withObjects();
        for (int g = 0; g < 4; g++) {
            check.due("look(" + g + ", 0)", g % 2, x.look(g, 0));
            check.due("set(" + g + ", -1)", true, x.set(g, -1));
            for (int what : new int[] {-1, 0, 1, 2, 3}) check.due("look(" + g + ", " + what + ")", NOTHING, x.look(g, what));
        }
        x = withObjects();
        for (int g : new int[] {LEAST, -1, 4, MOST}) check.due("look(" + g + ", 0)", NOTHING, x.look(g, 0));
    }

    private static void goNumbers() {
        check.part("16: false if there is no object, or no such FIELD, or that is an int");
        LazyCompiler x = withObjects();
        // FIELDS 1 and 3 of the one at GLOBAL 1 refer to those at GLOBALS 0 and 1.
        draft(FETCH, 1, FETCH, 0, PUT, 17, FETCH, 1, FETCH, 1, PUT, 19, INT, 0, GIVE, 0).due(check, x, 0, -1);
        check.gives(x, 0, 0, 0, 0, 0);
        for (int f : new int[] {LEAST, -1, 0, 2, 4, 5, 15, 16, MOST}) {
            check.due("go(1, " + f + ")", false, x.go(1, f));
            check.due("look(1, 0)", 1, x.look(1, 0));
        }
        check.due("go(1, 3)", true, x.go(1, 3));
        check.due("look(1, 0)", 1, x.look(1, 0));
        check.due("go(1, 1)", true, x.go(1, 1));
        check.due("look(1, 0)", 0, x.look(1, 0));
        check.due("no FIELD 3 any more", false, x.go(1, 3));
        check.due("set(1, -1)", true, x.set(1, -1));
        for (int f = -1; f < 4; f++) check.due("no object", false, x.go(1, f));
        for (int g : new int[] {LEAST, -1, 4, MOST}) check.due("go(" + g + ", 1)", false, x.go(g, 1));
        x = new LazyCompiler();
        for (int c = 0; c < 4; c++) check.due("cls(" + c + ", ..)", true, x.cls(c, c - 1, 2, 2));
        draft(NEW, 3, DUP, 0, DUP, 0, PUT, 63, GIVE, 0).due(check, x, 6, -1);
        check.gives(x, 6, 0, 0, 0, 3);
        check.due("FIELD 16", false, x.go(3, 16));
        check.due("FIELD 15", true, x.go(3, 15));
        check.due("itself", 3, x.look(3, 0));
        check.due("FIELD 13", false, x.go(3, 13));
        check.due("FIELD 14", true, x.go(3, 14));
        check.due("null", NOTHING, x.look(3, 0));
    }

    private static void goToNull() {
        check.part("16: a GLOBAL refers to what FIELD f of its object does: true");
        for (int g = 0; g < 4; g++) {
            LazyCompiler x = withObjects();
            check.due("go(" + g + ", 1)", true, x.go(g, 1));
            for (int k = 0; k < 4; k++) check.due("look(" + k + ", 0)", k == g ? NOTHING : k % 2, x.look(k, 0));
        }
    }

    private static void setNumbers() {
        check.part("17: with h -1 to nothing; false if there is no such one");
        int[] numbers = {LEAST, -2, -1, 0, 1, 2, 3, 4, MOST};
        for (int g : numbers) {
            for (int h : numbers) {
                LazyCompiler x = withObjects();
                boolean due = g >= 0 && g < 4 && h >= -1 && h < 4;
                check.due("set(" + g + ", " + h + ")", due, x.set(g, h));
                for (int k = 0; k < 4; k++) {
                    long now = due && k == g ? h < 0 ? NOTHING : h % 2 : k % 2;
                    check.due("look(" + k + ", 0)", now, x.look(k, 0));
                }
            }
        }
    }

    // ---- promises 18 and 19 ----

    private static void countDone() {
        check.part("18: 0: instructions done in the latest run; 19: a run that is REFUSED changes nothing");
        LazyCompiler x = new LazyCompiler();
        check.due("none", 0, x.count(0));
        draft(GOTO, 1, LOAD, 0, ZERO, 5, LOAD, 0, THROW, 0, INT, 0, GIVE, 0).due(check, x, 0, -1);
        check.gives(x, 0, 0, 0, 0, 0);
        check.due("up to GIVE", 5, x.count(0));
        check.due("run", REFUSED, x.run(0, 4, 0, 1));
        check.due("count(0)", 5, x.count(0));
        check.throwsOut(x, 0, 0, 1, 1, 4);
        check.due("up to what throws", 5, x.count(0));
        draft(INT, 7, GIVE, 0).due(check, x, 1, -1);
        check.gives(x, 1, 0, 0, 0, 7);
        check.due("the latest one alone", 2, x.count(0));
        draft(LOAD, 0, CALL, 1, CALL, 1, GIVE, 0).due(check, x, 0, -1);
        check.gives(x, 0, 0, 0, 0, 7);
        check.due("with those of methods that were called", 4 + 4, x.count(0));
        check.due("make changes nothing of it", REFUSED, x.make(0));
        check.due("count(0)", 8, x.count(0));
    }

    private static void countOverAllRuns() {
        check.part("19: count: 1, 2, 4 and 5 are over all runs");
        LazyCompiler x = withObjects();
        // Each run of it drops objects of 5 words; those at the GLOBALS have 16.
        draft(LOAD, 0, ZERO, 9, NEW, 1, POP, 0, LOAD, 0, INT, 1, SUB, 0, STORE, 0, GOTO, 0, LOAD, 0, GIVE, 0)
            .due(check, x, 0, -1);
        draft(LOAD, 0, CALL, 0, GIVE, 0).due(check, x, 1, -1);
        for (int i = 0; i < 4; i++) {
            check.gives(x, 1, 0, 0, 6, 0);
            check.due("count(1)", i, x.count(1));
            check.due("count(2)", 4 * i, x.count(2));
            check.due("count(4)", 3, x.count(4));
            check.due("count(5)", 1, x.count(5));
            draft(GOTO, 0).due(check, x, 7, -1);
            check.due("run", REFUSED, x.run(6, 0, 0, 0));
        }
        check.due("run", LONG, x.run(7, 0, 0, 0));
        check.due("count(1)", 3, x.count(1));
        check.due("count(2)", 12, x.count(2));
        check.due("count(4)", 4, x.count(4));
        check.due("count(5)", 1, x.count(5));
    }

    private static void countWords() {
        check.part("18: 3: words in use");
        LazyCompiler x = withObjects();
        check.due("four objects", 3 + 5 + 3 + 5, x.count(3));
        for (int g = 0; g < 4; g++) check.due("set(" + g + ", -1)", true, x.set(g, -1));
        check.due("in use until they are COLLECTED", 16, x.count(3));
        draft(GOTO, 0).due(check, x, 0, -1);
        check.due("run", LONG, x.run(0, 0, 0, 0));
        check.due("frames are not counted", 16, x.count(3));
    }

    private static void countReady() {
        check.part("18: 6: the sum of 2 to the power c for READY classes");
        LazyCompiler x = new LazyCompiler();
        int sum = 0;
        for (int c = 3; c >= 0; c--) {
            check.due("cls(" + c + ", ..)", true, x.cls(c, -1, 0, 0));
            check.due("there, but not READY", sum, x.count(6));
            draft(NEW, c, GIVE, 0).due(check, x, 6, -1);
            check.due("not by make", sum, x.count(6));
            check.gives(x, 6, 0, 0, 0, c);
            sum += 1 << c;
            check.due("count(6)", sum, x.count(6));
        }
        check.due("all of them", 15, sum);
    }

    private static void countOthers() {
        check.part("18: -1 for others");
        LazyCompiler x = withObjects();
        for (int what : new int[] {LEAST, -1, 7, 8, MOST}) check.due("count(" + what + ")", -1, x.count(what));
        int[] due = {10, 0, 0, 16, 1, 0, 3};
        for (int what = 0; what < 7; what++) check.due("count(" + what + ")", due[what], x.count(what));
    }

    private static void countAnotherBody() {
        check.part("19: a method that got another body counts once more when that is turned into code");
        LazyCompiler x = new LazyCompiler();
        for (int i = 1; i <= 4; i++) {
            draft(INT, i, GIVE, 0).due(check, x, 0, -1);
            check.due("not yet", i - 1, x.count(4));
            check.gives(x, 0, 0, 0, 0, i);
            check.due("once more", i, x.count(4));
            check.gives(x, 0, 0, 0, 0, i);
            check.due("once only", i, x.count(4));
            draft(GIVE, 0).due(check, x, 0, 0);
            check.gives(x, 0, 0, 0, 0, i);
            check.due("not after a REFUSED make", i, x.count(4));
        }
        draft(INT, 8, GIVE, 0).due(check, x, 0, -1);
        draft(INT, 9, GIVE, 0).due(check, x, 0, -1);
        check.gives(x, 0, 0, 0, 0, 9);
        check.due("a body that was never called does not count", 5, x.count(4));
    }
}
