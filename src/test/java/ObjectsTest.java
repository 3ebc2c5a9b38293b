/** Promises 15 to 19: look, go, set, count, with COLLECTIONS, READY classes, CODE and LINKS. */
public final class ObjectsTest implements HelpOps {
    private static final int OK = LazyCompiler.OK, REFUSED = LazyCompiler.REFUSED, LONG = LazyCompiler.LONG;
    private static final long NOTHING = LazyCompiler.NOTHING;
    private static final HelpCheck check = new HelpCheck();

    public static void main(String[] args) {
        looks();
        goes();
        sets();
        countNumbers();
        collectsNothing();
        collectsFromGlobals();
        collectsFromFrames();
        collectsWithoutTaken();
        collectsWithoutTop();
        collectsUnderInitialiser();
        collectsBehindCatcher();
        noRoomAtAll();
        movedTogether();
        readyClasses();
        initialiserWithoutRoom();
        initialiserThrows();
        turnedIntoCode();
        links();
        check.end();
    }

    /** Class 0 has an int and two references: 4 words, so that 12 objects fill the room. */
    private static LazyCompiler chains() {
        LazyCompiler x = new LazyCompiler();
        check.due("cls", true, x.cls(0, -1, 1, 2));
        check.due("cls", true, x.cls(1, 0, 0, 0));
        // Makes as many objects as its INT says, and keeps none of them.
        check.made(x, 0, LOAD, 0, ZERO, 9, NEW, 0, POP, 0, LOAD, 0, INT, 1, SUB, 0, STORE, 0, GOTO, 0, LOAD, 0, GIVE, 0);
        // Makes as many as its INT says, in a chain that begins at GLOBAL 0, numbered from its end on.
        check.made(x, 1, LOAD, 0, ZERO, 17, NEW, 0, STORE, 1, LOAD, 1, FETCH, 0, PUT, 1, LOAD, 1, LOAD, 0, PUT, 0,
            LOAD, 1, KEEP, 0, LOAD, 0, INT, 1, SUB, 0, STORE, 0, GOTO, 0, LOAD, 0, GIVE, 0);
        return x;
    }

    private static void counts(LazyCompiler x, int collections, int stayed, int words) {
        check.due("count(1)", collections, x.count(1));
        check.due("count(2)", stayed, x.count(2));
        check.due("count(3)", words, x.count(3));
    }

    private static void looks() {
        check.part("promise 15");
        LazyCompiler x = chains();
        check.due("null", NOTHING, x.look(0, 0));
        check.gives(x, 1, 0, 0, 2, 0);
        long[] due = {0, 1, 0, -1, NOTHING};
        for (int what = 0; what < due.length; what++) check.due("look(0, " + what + ")", due[what], x.look(0, what));
        check.due("what -1", NOTHING, x.look(0, -1));
        check.due("what least", NOTHING, x.look(0, Integer.MIN_VALUE));
        check.due("what most", NOTHING, x.look(0, Integer.MAX_VALUE));
        check.due("g -1", NOTHING, x.look(-1, 0));
        check.due("g 4", NOTHING, x.look(4, 0));
        check.due("g 1", NOTHING, x.look(1, 0));
        check.made(x, 6, NEW, 1, DUP, 0, INT, -3, PUT, 0, DUP, 0, DUP, 0, PUT, 18, GIVE, 0);
        check.gives(x, 6, 0, 0, 0, 1);
        long[] lower = {1, -3, -1, 1, NOTHING};
        for (int what = 0; what < lower.length; what++) check.due("look(3, " + what + ")", lower[what], x.look(3, what));
    }

    private static void goes() {
        check.part("promise 16");
        LazyCompiler x = chains();
        check.due("null", false, x.go(0, 1));
        check.gives(x, 1, 0, 0, 2, 0);
        check.due("set", true, x.set(2, 0));
        check.due("an int", false, x.go(0, 0));
        check.due("f -1", false, x.go(0, -1));
        check.due("f 3", false, x.go(0, 3));
        check.due("f most", false, x.go(0, Integer.MAX_VALUE));
        check.due("g -1", false, x.go(-1, 1));
        check.due("g 4", false, x.go(4, 1));
        check.due("unchanged", 1, x.look(0, 1));
        check.due("go(0, 1)", true, x.go(0, 1));
        check.due("the next one", 2, x.look(0, 1));
        check.due("another GLOBAL", 1, x.look(2, 1));
        check.due("go(0, 2) to null", true, x.go(0, 2));
        check.due("null", NOTHING, x.look(0, 0));
        check.due("no object", false, x.go(0, 2));
    }

    private static void sets() {
        check.part("promise 17");
        LazyCompiler x = chains();
        check.gives(x, 1, 0, 0, 1, 0);
        check.due("set(3, 0)", true, x.set(3, 0));
        check.due("look(3, 1)", 1, x.look(3, 1));
        check.due("set(0, 0)", true, x.set(0, 0));
        check.due("look(0, 1)", 1, x.look(0, 1));
        check.due("set(0, 2)", true, x.set(0, 2));
        check.due("null of another", NOTHING, x.look(0, 0));
        check.due("g -1", false, x.set(-1, 3));
        check.due("g 4", false, x.set(4, 3));
        check.due("g 4, to nothing", false, x.set(4, -1));
        check.due("h 4", false, x.set(3, 4));
        check.due("h -2", false, x.set(3, -2));
        check.due("unchanged", 0, x.look(3, 0));
        check.due("set(3, -1)", true, x.set(3, -1));
        check.due("nothing", NOTHING, x.look(3, 0));
    }

    private static void countNumbers() {
        check.part("promise 18, numbers");
        LazyCompiler x = chains();
        check.gives(x, 1, 0, 0, 3, 0);
        int[] due = {-1, 3 * 17 + 4, 0, 0, 12, 1, 0, 1, -1};
        for (int what = -1; what < 8; what++) check.due("count(" + what + ")", due[what + 1], x.count(what));
        check.due("count most", -1, x.count(Integer.MAX_VALUE));
        check.due("run", REFUSED, x.run(1, 4, 0, 0));
        check.due("count(0) stays", 55, x.count(0));
    }

    private static void collectsNothing() {
        check.part("promise 18, nothing stays");
        LazyCompiler x = chains();
        check.gives(x, 0, 0, 0, 12, 0);
        counts(x, 0, 0, 48);
        check.gives(x, 0, 0, 0, 1, 0);
        counts(x, 1, 0, 4);
        check.gives(x, 0, 0, 0, 12 + 12, 0);
        counts(x, 3, 0, 4);
    }

    private static void collectsFromGlobals() {
        check.part("promise 18, GLOBALS");
        LazyCompiler x = chains();
        check.gives(x, 1, 0, 0, 3, 0);
        check.due("set", true, x.set(2, 0));
        check.due("go", true, x.go(0, 1));
        check.gives(x, 0, 0, 0, 9, 0);
        counts(x, 0, 0, 48);
        check.gives(x, 0, 0, 0, 1, 0);
        counts(x, 1, 3, 16);
        check.due("GLOBAL 2", 1, x.look(2, 1));
        check.due("GLOBAL 0", 2, x.look(0, 1));
        check.due("set", true, x.set(2, -1));
        check.gives(x, 0, 0, 0, 9, 0);
        counts(x, 2, 3 + 2, 12);
        check.due("GLOBAL 0", 2, x.look(0, 1));
        check.due("go", true, x.go(0, 1));
        check.due("the last one", 3, x.look(0, 1));
        check.made(x, 7, LOAD, 0, LOAD, 0, PUT, 1, LOAD, 0, LOAD, 0, PUT, 2, INT, 1, GIVE, 0);
        check.gives(x, 7, 0, 0, 0, 1);
        check.gives(x, 0, 0, 0, 10, 0);
        counts(x, 3, 3 + 2 + 1, 8);
        check.due("set", true, x.set(0, -1));
        check.gives(x, 0, 0, 0, 11, 0);
        counts(x, 4, 3 + 2 + 1, 4);
    }

    private static void collectsFromFrames() {
        check.part("promise 18, frames");
        LazyCompiler x = chains();
        // One object in a LOCAL, one on the stack, and as many more as the INT says.
        check.made(x, 3, NEW, 0, STORE, 4, NEW, 0, LOAD, 1, CALL, 0, POP, 0, LOAD, 4, SAME, 0, GIVE, 0);
        check.gives(x, 3, 0, 0, 10, 0);
        counts(x, 0, 0, 48);
        check.due("count(6)", 1, x.count(6));
        check.gives(x, 3, 0, 0, 11, 0);
        counts(x, 2, 0 + 2, 12);
        check.made(x, 6, NEW, 0, DUP, 0, INT, 9, PUT, 0, STORE, 0, INT, 12, CALL, 0, POP, 0, LOAD, 0, GIVE, 0);
        check.gives(x, 6, 0, 0, 0, 0);
        check.due("its own int", 9, x.look(3, 1));
        check.made(x, 2, LOAD, 0, STORE, 3, NULL, 0, STORE, 0, INT, 30, CALL, 0, POP, 0, LOAD, 3, GET, 0, GIVE, 0);
        check.due("set", true, x.set(1, 3));
        check.due("set", true, x.set(3, -1));
        check.gives(x, 2, 1, 0, 0, 9);
    }

    private static void collectsWithoutTaken() {
        check.part("promise 18, without what was taken");
        LazyCompiler x = chains();
        // Drops what it took, then fills the room.
        check.made(x, 2, NULL, 0, STORE, 0, LOAD, 1, CALL, 0, GIVE, 0);
        check.made(x, 3, NEW, 0, LOAD, 1, CALL, 2, GIVE, 0);
        check.gives(x, 3, 0, 0, 12, 0);
        counts(x, 1, 0, 4);
        x = chains();
        check.made(x, 2, LOAD, 1, CALL, 0, GIVE, 0);
        check.made(x, 3, NEW, 0, LOAD, 1, CALL, 2, GIVE, 0);
        check.gives(x, 3, 0, 0, 12, 0);
        counts(x, 1, 1, 8);
        x = chains();
        check.made(x, 2, NULL, 0, STORE, 0, LOAD, 1, CALL, 0, GIVE, 0);
        check.made(x, 3, NEW, 0, DUP, 0, LOAD, 1, CALL, 2, GIVE, 0);
        check.gives(x, 3, 0, 0, 12, 0);
        counts(x, 1, 1, 8);
        x = chains();
        check.due("slot", true, x.slot(0, 1, 2));
        check.made(x, 2, NULL, 0, STORE, 0, LOAD, 1, CALL, 0, GIVE, 0);
        check.made(x, 3, NEW, 0, NEW, 0, LOAD, 1, SEND, 1, GIVE, 0);
        check.gives(x, 3, 0, 0, 11, 0);
        counts(x, 1, 1, 8);
    }

    private static void collectsWithoutTop() {
        check.part("promise 18, without TOP");
        LazyCompiler x = chains();
        // LOCAL 2 refers to an object on one way and is an INT on the other: TOP where the room is filled.
        check.made(x, 3, LOAD, 1, ZERO, 5, NEW, 0, STORE, 2, GOTO, 7, INT, 1, STORE, 2, INT, 12, CALL, 0, GIVE, 0);
        check.gives(x, 3, 0, 0, 1, 0);
        counts(x, 1, 0, 4);
        x = chains();
        check.made(x, 3, LOAD, 1, ZERO, 5, NEW, 0, STORE, 2, GOTO, 7, NULL, 0, STORE, 2, INT, 12, CALL, 0, GIVE, 0);
        check.gives(x, 3, 0, 0, 1, 0);
        counts(x, 1, 1, 8);
    }

    private static void collectsUnderInitialiser() {
        check.part("promise 18, under an INITIALISER");
        LazyCompiler x = chains();
        check.due("cls", true, x.cls(2, -1, 0, 0));
        check.due("initialiser", true, x.initialiser(2, 0));
        check.made(x, 0, INT, 12, CALL, 1, GIVE, 0);
        check.made(x, 1, LOAD, 0, ZERO, 9, NEW, 0, POP, 0, LOAD, 0, INT, 1, SUB, 0, STORE, 0, GOTO, 0, LOAD, 0, GIVE, 0);
        check.made(x, 6, NEW, 0, DUP, 0, INT, 6, PUT, 0, NEW, 2, POP, 0, GIVE, 0);
        check.gives(x, 6, 0, 0, 0, 0);
        counts(x, 1, 1, 8 + 1);
        check.due("its own int", 6, x.look(3, 1));
    }

    private static void collectsBehindCatcher() {
        check.part("promise 18, behind a CATCHER");
        LazyCompiler x = chains();
        // Three entries are on the stack when it throws; then one object is, under a call that fills the room.
        check.draft(x, FETCH, 0, INT, 4, LOAD, 1, INT, 0, DIV, 0, POP, 0, POP, 0, POP, 0, INT, 0, GIVE, 0,
            POP, 0, NEW, 0, DUP, 0, INT, 6, PUT, 0, INT, 12, CALL, 0, POP, 0, GET, 0, GIVE, 0);
        check.due("catcher", true, x.catcher(4, 5, 10));
        check.due("make(3)", OK, x.make(3));
        check.due("map(3, 10)", 1, x.map(3, 10));
        check.due("map(3, 15)", 1 + 64, x.map(3, 15));
        check.gives(x, 3, 0, 0, 1, 6);
        counts(x, 1, 1, 8);
    }

    private static void noRoomAtAll() {
        check.part("promise 18, no room");
        LazyCompiler x = chains();
        check.gives(x, 1, 0, 0, 12, 0);
        counts(x, 0, 0, 48);
        check.throwsOut(x, 0, 0, 1, 6, 2);
        counts(x, 1, 12, 48);
        check.due("cls", true, x.cls(2, -1, 0, 0));
        check.made(x, 6, NEW, 2, GIVE, 0);
        check.throwsOut(x, 6, 0, 0, 6, 6 * 32);
        counts(x, 2, 24, 48);
        check.due("READY all the same", 1 + 4, x.count(6));
        check.due("go", true, x.go(0, 1));
        check.draft(x, NEW, 0, STORE, 1, LOAD, 0, CALL, 1, GIVE, 0, LOAD, 0, SUB, 0, GIVE, 0);
        check.due("catcher", true, x.catcher(0, 4, 5));
        check.due("make(0)", OK, x.make(0));
        check.gives(x, 0, 0, 0, 1, 5);
        counts(x, 4, 24 + 11 + 12, 48);
        check.due("the chain is as it was", 2, x.look(0, 1));
    }

    private static void movedTogether() {
        check.part("promise 18, moved together");
        LazyCompiler x = new LazyCompiler();
        check.due("cls", true, x.cls(0, -1, 1, 1));
        check.due("cls", true, x.cls(1, 0, 2, 2));
        // Objects of 3 and of 7 words by turns; only the greater ones are kept, in a chain at GLOBAL 0.
        check.made(x, 0, NEW, 0, POP, 0, NEW, 1, STORE, 1, LOAD, 1, FETCH, 0, PUT, 21, LOAD, 1, LOAD, 0, PUT, 18,
            LOAD, 1, LOAD, 1, PUT, 20, LOAD, 1, KEEP, 0, LOAD, 0, GIVE, 0);
        for (int i = 1; i <= 6; i++) check.gives(x, 0, 0, 0, i * 11, i * 11);
        counts(x, 1, 4, 6 * 7 + 3);
        check.throwsOut(x, 0, 0, 7, 6, 2);
        counts(x, 2, 4 + 6, 6 * 7);
        for (int i = 6; i >= 1; i--) {
            long[] due = {1, 0, -1, i * 11, 0, 1, i > 1 ? 1 : -1, NOTHING};
            for (int what = 0; what < due.length; what++) check.due("look(0, " + what + ")", due[what], x.look(0, what));
            check.due("itself", true, x.go(0, 4));
            check.due("still", i * 11, x.look(0, 3));
            check.due("go(0, 5)", true, x.go(0, 5));
        }
        check.due("the end", NOTHING, x.look(0, 0));
    }

    private static void readyClasses() {
        check.part("promise 18, READY");
        LazyCompiler x = new LazyCompiler();
        for (int c = 0; c < 3; c++) check.due("cls", true, x.cls(c, c - 1, 0, 0));
        check.due("cls", true, x.cls(3, 1, 0, 0));
        check.due("initialiser", true, x.initialiser(1, 0));
        check.due("initialiser", true, x.initialiser(2, 1));
        check.made(x, 6, NEW, 3, GIVE, 0);
        check.gives(x, 6, 0, 0, 0, 3);
        check.due("without a body", 2, x.count(0));
        check.due("count(6)", 1 + 2 + 8, x.count(6));
        check.made(x, 0, INT, 1, THROW, 0);
        check.made(x, 1, LOAD, 0, INT, 100, ADD, 0, THROW, 0);
        check.made(x, 6, NEW, 2, GIVE, 0);
        check.throwsOut(x, 6, 0, 0, 102, 32 + 3);
        check.due("not once more", 15, x.count(6));
        check.gives(x, 6, 0, 0, 0, 2);

        x = new LazyCompiler();
        for (int c = 0; c < 4; c++) check.due("cls", true, x.cls(c, c - 1, 0, 0));
        for (int c = 0; c < 4; c++) check.due("initialiser", true, x.initialiser(c, c % 2 == 0 ? 0 : -1));
        check.made(x, 0, GOTO, 0);
        check.made(x, 6, NEW, 3, GIVE, 0);
        check.due("run", LONG, x.run(6, 0, 0, 0));
        check.due("only the uppermost", 1, x.count(6));
        check.due("run", LONG, x.run(6, 0, 0, 0));
        check.due("as far as the next INITIALISER", 1 + 2 + 4, x.count(6));
        check.gives(x, 6, 0, 0, 0, 3);
        check.due("count(6)", 15, x.count(6));
        check.due("count(0)", 2, x.count(0));
    }

    private static void initialiserWithoutRoom() {
        check.part("promise 18, INITIALISER without room");
        LazyCompiler x = new LazyCompiler();
        check.due("cls", true, x.cls(0, -1, 0, 0));
        check.due("initialiser", true, x.initialiser(0, 1));
        check.made(x, 1, INT, 1, GIVE, 0);
        // Ten frames of 12 words fill the room; the last one does the NEW.
        check.made(x, 4, LOAD, 0, LOAD, 1, ZERO, 8, LOAD, 1, INT, 1, SUB, 0, CALL, 4, GIVE, 0, POP, 0, NEW, 0, GIVE, 0);
        check.due("body(4, 1)", 12, x.body(4, 1));
        check.throwsOut(x, 4, 0, 9, 5, 4 * 32 + 9);
        check.due("READY", 1, x.count(6));
        check.due("turned into code", 2, x.count(4));
        check.due("no LINK of its own", 1, x.count(5));
        check.due("no object", 0, x.count(3));
        check.gives(x, 4, 0, 0, 9, 0);
        check.due("an object", 1, x.count(3));
    }

    private static void initialiserThrows() {
        check.part("promise 18, INITIALISER that throws");
        LazyCompiler x = new LazyCompiler();
        check.due("cls", true, x.cls(0, -1, 0, 0));
        check.due("cls", true, x.cls(1, 0, 0, 0));
        check.due("initialiser", true, x.initialiser(0, 0));
        check.made(x, 0, LOAD, 0, INT, 60, ADD, 0, THROW, 0);
        check.draft(x, NEW, 1, POP, 0, INT, 1, GIVE, 0, GIVE, 0);
        check.due("catcher", true, x.catcher(0, 1, 4));
        check.due("make(1)", OK, x.make(1));
        check.gives(x, 1, 0, 0, 0, 60);
        check.due("count(0)", 1 + 4 + 1, x.count(0));
        check.due("count(6)", 1, x.count(6));
        check.due("count(3)", 0, x.count(3));
        check.gives(x, 1, 0, 0, 0, 1);
        check.due("count(0)", 4, x.count(0));
        check.due("count(6)", 3, x.count(6));
    }

    private static void turnedIntoCode() {
        check.part("promises 18 and 19, CODE");
        LazyCompiler x = new LazyCompiler();
        check.made(x, 0, LOAD, 0, GIVE, 0);
        check.due("not by make", 0, x.count(4));
        check.gives(x, 0, 0, 0, 0, 0);
        check.gives(x, 0, 0, 0, 0, 0);
        check.due("once", 1, x.count(4));
        check.made(x, 1, LOAD, 0, ZERO, 5, LOAD, 0, CALL, 0, GIVE, 0, INT, 0, GIVE, 0);
        check.gives(x, 1, 0, 0, 0, 0);
        check.due("one more", 2, x.count(4));
        check.made(x, 0, LOAD, 0, GIVE, 0);
        check.gives(x, 1, 0, 0, 0, 0);
        check.due("not called", 2, x.count(4));
        check.gives(x, 1, 0, 0, 1, 1);
        check.due("another body", 3, x.count(4));
        check.refused(x, 0, 0, POP, 0);
        check.gives(x, 0, 0, 0, 0, 0);
        check.due("the same body", 3, x.count(4));
        check.made(x, 2, GOTO, 0);
        check.due("run", LONG, x.run(2, 0, 0, 0));
        check.due("LONG", 4, x.count(4));
        // Ten frames of 11 words leave 10, too few for method 1.
        check.made(x, 0, LOAD, 0, ZERO, 7, LOAD, 0, INT, 1, SUB, 0, CALL, 0, GIVE, 0, INT, 0, CALL, 1, GIVE, 0);
        check.made(x, 1, INT, 44, INT, 1, POP, 0, GIVE, 0);
        check.throwsOut(x, 0, 0, 9, 5, 8);
        check.due("before room is looked for", 6, x.count(4));
        check.gives(x, 0, 0, 0, 8, 44);
        check.due("once", 6, x.count(4));
    }

    private static void links() {
        check.part("promises 18 and 19, LINKS");
        LazyCompiler x = new LazyCompiler();
        check.made(x, 1, LOAD, 0, GIVE, 0);
        check.made(x, 0, LOAD, 0, CALL, 1, CALL, 1, GIVE, 0);
        check.due("not by make", 0, x.count(5));
        check.gives(x, 0, 0, 0, 0, 0);
        check.due("each CALL", 2, x.count(5));
        check.gives(x, 0, 0, 0, 0, 0);
        check.due("once", 2, x.count(5));
        check.made(x, 2, LOAD, 1, CALL, 0, CALL, 1, GIVE, 0);
        check.gives(x, 2, 0, 0, 5, 5);
        check.due("of another method", 4, x.count(5));
        check.made(x, 0, LOAD, 0, CALL, 1, GIVE, 0);
        check.gives(x, 2, 0, 0, 5, 5);
        check.due("its own, and those of it", 4 + 2, x.count(5));
        check.made(x, 1, LOAD, 0, GIVE, 0);
        check.gives(x, 2, 0, 0, 5, 5);
        check.due("those of it in all", 6 + 2, x.count(5));
        check.refused(x, 1, 0, POP, 0);
        check.gives(x, 2, 0, 0, 5, 5);
        check.due("not by a REFUSED make", 8, x.count(5));
        check.made(x, 6, CALL, 6, GIVE, 0);
        check.throwsOut(x, 6, 0, 0, 5, 6 * 32);
        check.due("once in twelve frames", 9, x.count(5));
        // The frame of method 7 has 11 words, which the last of these frames finds no room for.
        check.made(x, 7, INT, 1, INT, 1, POP, 0, GIVE, 0);
        check.made(x, 0, LOAD, 0, ZERO, 7, LOAD, 0, INT, 1, SUB, 0, CALL, 0, GIVE, 0, NULL, 0, NULL, 0, CALL, 7, GIVE, 0);
        check.throwsOut(x, 0, 0, 9, 5, 9);
        check.due("LINKED without room", 11, x.count(5));
        check.gives(x, 0, 0, 0, 0, 1);
        check.due("LINKED already", 11, x.count(5));
    }
}
