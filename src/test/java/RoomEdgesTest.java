/** "ROOM", "FIRST NEW", "CODE" and "LINKS": for each sentence the last that finds room and the first that finds none. */
public final class RoomEdgesTest implements HelpOps {
    private static final int OK = LazyCompiler.OK, LONG = LazyCompiler.LONG;
    private static final HelpCheck check = new HelpCheck();

    public static void main(String[] args) {
        frameWords();
        framesTogether();
        oneMethodOnly();
        framesGiveBack();
        framesAfterARun();
        objectWords();
        objectsTogether();
        mostObjects();
        movedTogether();
        movedInEachFrame();
        reachedFromGlobals();
        reachedFromLocals();
        reachedFromStack();
        reachedFromCallers();
        reachedFromFields();
        notReachedFromInts();
        notReachedFromEnded();
        withoutWhatWasTaken();
        takenByInitialiser();
        stillNoRoom();
        exactlyRoom();
        readyFromUppermost();
        readyBeforeAllElse();
        initialiserNumber();
        initialiserWithoutBody();
        initialiserWithoutRoom();
        newOnceMore();
        staysReady();
        turnedWhenCalled();
        turnedBeforeRoom();
        linkedWhenDone();
        linkedWithoutRoom();
        unlinked();
        check.end();
    }

    private static HelpDraft draft(int... pairs) {
        return new HelpDraft().add(pairs);
    }

    private static void counts(LazyCompiler x, int collections, int stayed, int words) {
        check.due("count(1)", collections, x.count(1));
        check.due("count(2)", stayed, x.count(2));
        check.due("count(3)", words, x.count(3));
    }

    // ---- frames ----

    private static void frameWords() {
        check.part("a frame needs 9 words and as many as the greatest height");
        LazyCompiler x = new LazyCompiler();
        draft(GOTO, 0).due(check, x, 0, -1);
        check.due("nothing on its stack", 9, x.body(0, 1));
        for (int height = 1; height <= 6; height++) {
            draft().times(height, INT, 1).add(GIVE, 0).due(check, x, 0, -1);
            check.due("height " + height, 9 + height, x.body(0, 1));
            draft().times(height - 1, INT, 1).add(CALL, 6, GOTO, height).due(check, x, 0, -1);
            check.due("behind a CALL", 9 + height, x.body(0, 1));
        }
        draft(INT, 1, GIVE, 0).times(6, INT, 1).add(GIVE, 0).due(check, x, 0, -1);
        check.due("not reached", 10, x.body(0, 1));
        draft(GOTO, 0, THROW, 0).catcher(0, 1, 1).due(check, x, 0, -1);
        check.due("what is caught", 10, x.body(0, 1));
        draft(GOTO, 0, THROW, 0).catcher(1, 2, 1).due(check, x, 0, -1);
        check.due("what is never caught", 9, x.body(0, 1));
    }

    /**
     * Method 1, of a frame of 10 to 15 words, calls method 0, which has as many frames of 11 to 15 words as it gets, and
     * the last of these calls method 6.
     */
    private static LazyCompiler tower(int driver, int words, int last) {
        LazyCompiler x = new LazyCompiler();
        draft(LOAD, 0, CALL, 0).times(driver - 10, INT, 7).add(GIVE, 0).due(check, x, 1, -1);
        draft(LOAD, 0, INT, 1, SUB, 0, STORE, 0, LOAD, 0, ZERO, 9, LOAD, 0, CALL, 0, GIVE, 0, CALL, 6, POP, 0)
            .times(words - 9, INT, 7).add(GIVE, 0).due(check, x, 0, -1);
        if (last == 9) draft(GOTO, 0).due(check, x, 6, -1);
        else draft().times(last - 9, NULL, 0).add(GIVE, 0).due(check, x, 6, -1);
        check.due("body(1, 1)", driver, x.body(1, 1));
        check.due("body(0, 1)", words, x.body(0, 1));
        check.due("body(6, 1)", last, x.body(6, 1));
        return x;
    }

    private static void framesTogether() {
        check.part("frames together have 120");
        for (int driver = 10; driver <= 15; driver++) {
            for (int words = 11; words <= 15; words++) {
                for (int last = 9; last <= 15; last++) {
                    LazyCompiler x = tower(driver, words, last);
                    for (int frames = 5; frames <= 10; frames++) tries(x, driver + frames * words, last, frames);
                }
            }
        }
    }

    private static void tries(LazyCompiler x, int below, int last, int frames) {
        if (below > 120) {
            check.throwsOut(x, 1, 0, frames, 5, 7);
        } else if (below + last > 120) {
            check.throwsOut(x, 1, 0, frames, 5, 9);
        } else if (last == 9) {
            check.due("run", LONG, x.run(1, 0, 0, frames));
        } else {
            check.gives(x, 1, 0, 0, frames, 7);
        }
    }

    private static void oneMethodOnly() {
        check.part("frames together have 120, of one method");
        LazyCompiler x = new LazyCompiler();
        for (int height = 1; height <= 6; height++) {
            // Each CALL finds one more frame, until there is no room: as many are done as there are frames.
            draft(CALL, 6).times(height - 1, NULL, 0).add(GIVE, 0).due(check, x, 6, -1);
            check.throwsOut(x, 6, 0, 0, 5, 6 * 32);
            check.due("count(0)", 120 / (9 + height), x.count(0));
        }
    }

    private static void framesGiveBack() {
        check.part("a method that has ended needs no room");
        LazyCompiler x = new LazyCompiler();
        // Method 0 has ten frames of 12 words if it gets 9, eleven if it gets 10, which is thrown.
        draft(LOAD, 0, ZERO, 7, LOAD, 0, INT, 1, SUB, 0, CALL, 0, GIVE, 0, INT, 1, INT, 2, INT, 3, GIVE, 0)
            .due(check, x, 0, -1);
        check.gives(x, 0, 0, 0, 9, 3);
        check.throwsOut(x, 0, 0, 10, 5, 5);
        // 12 words and nine of those fill the room, twice one after the other.
        draft(INT, 8, CALL, 0, INT, 8, CALL, 0, INT, 0, ADD, 0, ADD, 0, GIVE, 0).due(check, x, 1, -1);
        check.due("body(1, 1)", 12, x.body(1, 1));
        check.gives(x, 1, 0, 0, 0, 6);
        draft(INT, 9, CALL, 0, GIVE, 0, INT, 8, CALL, 0, ADD, 0, INT, 0, INT, 0, ADD, 0, ADD, 0, GIVE, 0).catcher(1, 2, 3)
            .due(check, x, 1, -1);
        check.due("body(1, 1)", 12, x.body(1, 1));
        check.gives(x, 1, 0, 0, 0, 5 + 3);
    }

    private static void framesAfterARun() {
        check.part("a run begins with no frames");
        LazyCompiler x = new LazyCompiler();
        draft(LOAD, 0, ZERO, 7, LOAD, 0, INT, 1, SUB, 0, CALL, 0, GIVE, 0, LOAD, 0, INT, 2, INT, 3, GIVE, 0)
            .due(check, x, 0, -1);
        draft(LOAD, 0, ZERO, 7, LOAD, 0, INT, 1, SUB, 0, CALL, 1, GIVE, 0, INT, 1, INT, 2, INT, 3, GOTO, 10)
            .due(check, x, 1, -1);
        check.due("run that is LONG with a full room", LONG, x.run(1, 0, 0, 9));
        check.gives(x, 0, 0, 0, 9, 3);
        check.throwsOut(x, 1, 0, 10, 5, 32 + 5);
        check.gives(x, 0, 0, 0, 9, 3);
        check.throwsOut(x, 0, 0, 10, 5, 5);
    }

    // ---- objects ----

    /** The lowest class of a chain with so many FIELDS all together; the references come last in each. */
    private static int withFields(LazyCompiler x, int fields) {
        int c = 0, left = fields;
        while (true) {
            int own = Math.min(left, 4), ints = Math.min(own, 2);
            check.due("cls(" + c + ", ..)", true, x.cls(c, c - 1, ints, own - ints));
            left -= own;
            if (left == 0) return c;
            c++;
        }
    }

    private static void objectWords() {
        check.part("an object needs 1 word and 1 for each FIELD");
        for (int fields = 0; fields <= 16; fields++) {
            LazyCompiler x = new LazyCompiler();
            int c = withFields(x, fields);
            draft(NEW, c, GIVE, 0).due(check, x, 6, -1);
            check.gives(x, 6, 0, 0, 0, c);
            counts(x, 0, 0, 1 + fields);
            check.gives(x, 6, 0, 0, 0, c);
            counts(x, 0, 0, 2 * (1 + fields));
        }
    }

    /** Method 0 makes as many objects of class c as it gets, and keeps none. */
    private static void dropping(LazyCompiler x, int c) {
        draft(LOAD, 0, ZERO, 9, NEW, c, POP, 0, LOAD, 0, INT, 1, SUB, 0, STORE, 0, GOTO, 0, LOAD, 0, GIVE, 0)
            .due(check, x, 0, -1);
    }

    private static void objectsTogether() {
        check.part("all together have 48; if NEW finds no room, objects are COLLECTED");
        for (int fields = 0; fields <= 16; fields++) {
            LazyCompiler x = new LazyCompiler();
            int c = withFields(x, fields);
            dropping(x, c);
            int words = 1 + fields, most = 48 / words;
            check.gives(x, 0, 0, 0, most, 0);
            counts(x, 0, 0, most * words);
            check.gives(x, 0, 0, 0, 1, 0);
            counts(x, 1, 0, words);
            check.gives(x, 0, 0, 0, most - 1, 0);
            counts(x, 1, 0, most * words);
            check.gives(x, 0, 0, 0, 1, 0);
            counts(x, 2, 0, words);
        }
    }

    /** Class 0 has an int and a reference (3 words: 16 fill the room); method 0 drops objects of it. */
    private static LazyCompiler pairs() {
        LazyCompiler x = new LazyCompiler();
        check.due("cls(0, ..)", true, x.cls(0, -1, 1, 1));
        dropping(x, 0);
        return x;
    }

    private static void mostObjects() {
        check.part("as many objects as there can be");
        for (int kept = 0; kept < 4; kept++) {
            LazyCompiler x = new LazyCompiler();
            check.due("cls(0, ..)", true, x.cls(0, -1, 0, 0));
            check.due("cls(1, ..)", true, x.cls(1, -1, 0, 0));
            dropping(x, 0);
            draft(NEW, 1, KEEP, kept, INT, 0, GIVE, 0).due(check, x, 1, -1);
            check.gives(x, 0, 0, 0, 47, 0);
            check.gives(x, 1, 0, 0, 0, 0);
            counts(x, 0, 0, 48);
            check.gives(x, 0, 0, 0, 1, 0);
            counts(x, 1, 1, 2);
            check.due("the last one", 1, x.look(kept, 0));
        }
        // All 48 stay: 16 with 3 words each, in a chain from one that is made last.
        LazyCompiler x = pairs();
        draft(LOAD, 0, ZERO, 14, NEW, 0, DUP, 0, FETCH, 1, PUT, 1, DUP, 0, LOAD, 0, PUT, 0, KEEP, 1, LOAD, 0, INT, 1,
            SUB, 0, GOTO, 16, LOAD, 0, GIVE, 0, STORE, 0, GOTO, 0).due(check, x, 1, -1);
        check.gives(x, 1, 0, 0, 16, 0);
        check.throwsOut(x, 0, 0, 1, 6, 2);
        counts(x, 1, 16, 48);
        for (int i = 1; i <= 16; i++) {
            check.due("its int", i, x.look(1, 1));
            check.due("go(1, 1)", true, x.go(1, 1));
        }
        check.due("the end", LazyCompiler.NOTHING, x.look(1, 0));
    }

    private static void movedTogether() {
        check.part("objects are moved together: what refers to them does so still");
        for (int below = 1; below <= 12; below++) {
            LazyCompiler x = pairs();
            check.gives(x, 0, 0, 0, below, 0);
            // One in a LOCAL, one on the stack, both below a call, and one in a FIELD of each; 16 in all with what is dropped.
            draft(NEW, 0, STORE, 2, LOAD, 2, INT, 31, PUT, 0, LOAD, 2, NEW, 0, PUT, 1, NEW, 0, DUP, 0, INT, 32, PUT, 0,
                DUP, 0, LOAD, 2, PUT, 1, LOAD, 1, CALL, 0, POP, 0, DUP, 0, KEEP, 1, LOAD, 2, KEEP, 2, GET, 0, GIVE, 0)
                .due(check, x, 3, -1);
            check.gives(x, 3, 0, 0, 16 - 3 - below, 32);
            counts(x, 0, 0, 48);
            x = pairs();
            check.gives(x, 0, 0, 0, below, 0);
            draft(NEW, 0, STORE, 2, LOAD, 2, INT, 31, PUT, 0, LOAD, 2, NEW, 0, PUT, 1, NEW, 0, DUP, 0, INT, 32, PUT, 0,
                DUP, 0, LOAD, 2, PUT, 1, LOAD, 1, CALL, 0, POP, 0, DUP, 0, KEEP, 1, LOAD, 2, KEEP, 2, GET, 0, GIVE, 0)
                .due(check, x, 3, -1);
            check.gives(x, 3, 0, 0, 16 - 3 - below + 1, 32);
            counts(x, 1, 3, 12);
            long[] first = {0, 32, 0}, second = {0, 31, 0};
            for (int what = 0; what < 3; what++) {
                check.due("look(1, " + what + ")", first[what], x.look(1, what));
                check.due("look(2, " + what + ")", second[what], x.look(2, what));
            }
            check.due("go(1, 1)", true, x.go(1, 1));
            check.due("the same one", 31, x.look(1, 1));
            check.due("go(2, 1)", true, x.go(2, 1));
            check.due("its int", 0, x.look(2, 1));
            check.due("its reference", -1, x.look(2, 2));
        }
        // Objects of other sizes and classes, with each word of theirs.
        LazyCompiler x = new LazyCompiler();
        for (int c = 0; c < 4; c++) check.due("cls(" + c + ", ..)", true, x.cls(c, c - 1, 2, c == 0 ? 0 : 1));
        for (int c = 0; c < 4; c++) {
            // 3, 6, 9 and 12 words; before each one of 3 words that is dropped: 42 in all.
            int last = 3 * c + 1;
            draft(NEW, 0, POP, 0, NEW, c, DUP, 0, INT, 60 + c, PUT, 16 * c, DUP, 0, INT, 70 + c, PUT, 16 * c + 1, KEEP, c,
                INT, 0, GIVE, 0).due(check, x, 0, -1);
            check.gives(x, 0, 0, 0, 0, 0);
            if (c == 0) continue;
            draft(FETCH, c, FETCH, c - 1, PUT, 16 * c + last, FETCH, c, INT, 80 + c, PUT, 16 * c + last - 1, INT, 0, GIVE, 0)
                .due(check, x, 0, -1);
            check.gives(x, 0, 0, 0, 0, 0);
        }
        counts(x, 0, 0, 42);
        dropping(x, 1);
        check.gives(x, 0, 0, 0, 2, 0);
        counts(x, 1, 4, 36);
        for (int c = 0; c < 4; c++) {
            check.due("class", c, x.look(c, 0));
            check.due("first int", 60 + c, x.look(c, 1));
            check.due("second int", 70 + c, x.look(c, 2));
            if (c > 0) check.due("last int", 80 + c, x.look(c, 3 * c + 1));
            if (c > 0) check.due("last reference", c - 1, x.look(c, 3 * c + 2));
        }
    }

    /** Method 3 has as many frames as it gets and one more, and calls method 1 then; 5 objects are dropped before. */
    private static LazyCompiler calledDeep() {
        LazyCompiler x = pairs();
        draft(LOAD, 1, ZERO, 8, LOAD, 0, LOAD, 1, INT, 1, SUB, 0, CALL, 3, GIVE, 0, INT, 0, CALL, 1, GIVE, 0)
            .due(check, x, 3, -1);
        draft(NEW, 0, DUP, 0, INT, 41, PUT, 0, GIVE, 0).due(check, x, 6, -1);
        check.gives(x, 0, 0, 0, 5, 0);
        return x;
    }

    private static void movedInEachFrame() {
        check.part("objects are moved together: each LOCAL and entry of each frame that refers to them");
        for (int deep = 0; deep < 6; deep++) {
            for (int l = 0; l < 6; l++) {
                LazyCompiler x = calledDeep();
                draft(CALL, 6, STORE, l, INT, 20, CALL, 0, POP, 0, LOAD, l, GET, 0, GIVE, 0).due(check, x, 1, -1);
                check.gives(x, 3, 0, 0, deep, 41);
                counts(x, 1, 1, 3 + 10 * 3);
            }
            for (int k = 0; k < 5; k++) {
                LazyCompiler x = calledDeep();
                draft().times(k, INT, 7).add(CALL, 6, INT, 20, CALL, 0, POP, 0, GET, 0, GIVE, 0).due(check, x, 1, -1);
                check.gives(x, 3, 0, 0, deep, 41);
                counts(x, 1, 1, 3 + 10 * 3);
            }
        }
    }

    private static void reachedFromGlobals() {
        check.part("only those stay that can be reached from GLOBALS");
        for (int g = 0; g < 4; g++) {
            LazyCompiler x = pairs();
            check.gives(x, 0, 0, 0, 1, 0);
            draft(NEW, 0, DUP, 0, LOAD, 0, PUT, 0, KEEP, g, INT, 0, GIVE, 0).due(check, x, 1, -1);
            check.gives(x, 1, 0, 0, 55, 0);
            check.gives(x, 0, 0, 0, 14, 0);
            counts(x, 0, 0, 48);
            check.gives(x, 0, 0, 0, 1, 0);
            counts(x, 1, 1, 6);
            check.due("its int", 55, x.look(g, 1));
            check.due("set(" + g + ", -1)", true, x.set(g, -1));
            check.gives(x, 0, 0, 0, 15, 0);
            counts(x, 2, 1, 3);
        }
    }

    private static void reachedFromLocals() {
        check.part("or from LOCALS of frames, entries that are REF where the frame is");
        for (int l = 0; l < 6; l++) {
            LazyCompiler x = pairs();
            // The NEW at 7 is done in the frame itself, with 14 objects more than the one in the LOCAL.
            draft(INT, 14, CALL, 0, POP, 0, NEW, 0, DUP, 0, INT, 66, PUT, 0, STORE, l, NEW, 0, POP, 0, NEW, 0, POP, 0,
                LOAD, l, GET, 0, GIVE, 0).due(check, x, 1, -1);
            check.gives(x, 1, 0, 0, 0, 66);
            counts(x, 1, 1, 6);
            x = pairs();
            draft(INT, 14, CALL, 0, POP, 0, NEW, 0, STORE, l, INT, 66, STORE, l, NEW, 0, POP, 0, NEW, 0, POP, 0,
                LOAD, l, GIVE, 0).due(check, x, 1, -1);
            check.gives(x, 1, 0, 0, 0, 66);
            counts(x, 1, 0, 3);
        }
    }

    private static void reachedFromStack() {
        check.part("or from stacks of frames, entries that are REF where the frame is");
        for (int below = 0; below < 5; below++) {
            LazyCompiler x = pairs();
            check.gives(x, 0, 0, 0, 15, 0);
            draft().times(below, INT, 1).add(NEW, 0, NEW, 0, POP, 0, IS, 0, GIVE, 0).due(check, x, 1, -1);
            check.gives(x, 1, 0, 0, 0, 1);
            counts(x, 1, 1, 6);
            x = pairs();
            check.gives(x, 0, 0, 0, 15, 0);
            draft().times(below, INT, 1).add(NEW, 0, POP, 0, NEW, 0, IS, 0, GIVE, 0).due(check, x, 1, -1);
            check.gives(x, 1, 0, 0, 0, 1);
            counts(x, 1, 0, 3);
        }
        // All six entries and five of the LOCALS at once, below a frame that makes the one that finds no room.
        LazyCompiler x = pairs();
        draft(NEW, 0, STORE, 1, NEW, 0, STORE, 2, NEW, 0, STORE, 3, NEW, 0, STORE, 4, NEW, 0, STORE, 5).times(5, NEW, 0)
            .add(LOAD, 0, CALL, 0, POP, 0, LOAD, 5, SAME, 0, GIVE, 0).due(check, x, 1, -1);
        check.gives(x, 1, 0, 0, 6, 0);
        counts(x, 0, 0, 48);
        x = pairs();
        draft(NEW, 0, STORE, 1, NEW, 0, STORE, 2, NEW, 0, STORE, 3, NEW, 0, STORE, 4, NEW, 0, STORE, 5).times(5, NEW, 0)
            .add(LOAD, 0, CALL, 0, POP, 0, LOAD, 5, SAME, 0, GIVE, 0).due(check, x, 1, -1);
        check.gives(x, 1, 0, 0, 7, 0);
        counts(x, 1, 10, 33);
    }

    private static void reachedFromCallers() {
        check.part("or from LOCALS and stacks of frames, of all that have called");
        LazyCompiler x = pairs();
        // Each frame of method 2 keeps an object in a LOCAL and one on its stack; the last one fills the room.
        draft(NEW, 0, STORE, 2, NEW, 0, LOAD, 1, ZERO, 13, LOAD, 0, LOAD, 1, INT, 1, SUB, 0, CALL, 2, POP, 0, IS, 0, GIVE, 0,
            INT, 13, CALL, 0, GIVE, 0).due(check, x, 2, -1);
        check.gives(x, 2, 0, 0, 3, 1);
        counts(x, 1, 8, 48 - 9);
    }

    private static void reachedFromFields() {
        check.part("that can be reached: through any FIELDS that are references");
        LazyCompiler x = new LazyCompiler();
        // 5 words, and a class below with 2 words more, the last of which is a reference.
        check.due("cls(0, ..)", true, x.cls(0, -1, 2, 2));
        check.due("cls(1, ..)", true, x.cls(1, 0, 1, 1));
        dropping(x, 0);
        for (int field : new int[] {2, 3, 16 + 5}) {
            int g = field == 2 ? 0 : field == 3 ? 1 : 2;
            draft(NEW, 1, DUP, 0, NEW, 0, DUP, 0, INT, 70 + g, PUT, 1, PUT, field, KEEP, g, INT, 0, GIVE, 0)
                .due(check, x, 1, -1);
            check.gives(x, 1, 0, 0, 0, 0);
        }
        counts(x, 0, 0, 36);
        check.gives(x, 0, 0, 0, 2, 0);
        counts(x, 0, 0, 46);
        check.gives(x, 0, 0, 0, 1, 0);
        counts(x, 1, 6, 41);
        int[] fields = {2, 3, 5};
        for (int g = 0; g < 3; g++) {
            check.due("go(" + g + ", " + fields[g] + ")", true, x.go(g, fields[g]));
            check.due("its int", 70 + g, x.look(g, 2));
        }
        check.gives(x, 0, 0, 0, 2, 0);
        counts(x, 2, 6 + 3, 20);
    }

    private static void notReachedFromInts() {
        check.part("only from entries that are REF");
        // INTs of all sizes, in LOCALS, on the stack and in a FIELD, keep nothing.
        for (int value = 0; value <= 49; value++) {
            LazyCompiler x = pairs();
            check.gives(x, 0, 0, 0, 15, 0);
            draft(NEW, 0, DUP, 0, LOAD, 0, PUT, 0, KEEP, 2, LOAD, 0, STORE, 4, LOAD, 0, NEW, 0, POP, 0, GIVE, 0)
                .due(check, x, 1, -1);
            check.gives(x, 1, 0, 0, value, value);
            counts(x, 1, 1, 6);
            check.due("look(2, 1)", value, x.look(2, 1));
        }
        // REF on one way only: neither, where the NEW finds no room.
        LazyCompiler x = pairs();
        check.gives(x, 0, 0, 0, 15, 0);
        draft(LOAD, 0, ZERO, 4, NEW, 0, GOTO, 5, INT, 1, NEW, 0, POP, 0, POP, 0, INT, 1, GIVE, 0).due(check, x, 1, -1);
        check.gives(x, 1, 0, 0, 1, 1);
        counts(x, 1, 0, 3);
    }

    private static void notReachedFromEnded() {
        check.part("only from frames: not from those of methods that have ended");
        for (int by : new int[] {GIVE, THROW}) {
            LazyCompiler x = pairs();
            check.gives(x, 0, 0, 0, 13, 0);
            // Method 1 ends with objects in two LOCALS; the third NEW of method 2, or the one that it calls for, finds no room.
            draft(NEW, 0, STORE, 1, NEW, 0, STORE, 2, INT, 5, by, 0).due(check, x, 1, -1);
            draft(INT, 0, CALL, 1, POP, 0, NEW, 0, POP, 0, NEW, 0, IS, 0, GIVE, 0).catcher(1, 2, 2).due(check, x, 2, -1);
            check.gives(x, 2, 0, 0, 0, 1);
            counts(x, 1, 0, 3);
            x = pairs();
            check.gives(x, 0, 0, 0, 13, 0);
            draft(NEW, 0, STORE, 1, NEW, 0, STORE, 2, INT, 5, by, 0).due(check, x, 1, -1);
            draft(INT, 0, CALL, 1, POP, 0, INT, 2, CALL, 0, GIVE, 0).catcher(1, 2, 2).due(check, x, 2, -1);
            check.gives(x, 2, 0, 0, 0, 0);
            counts(x, 1, 0, 3);
        }
        // Nor from those of a run before, which was LONG.
        LazyCompiler x = pairs();
        draft(NEW, 0, STORE, 1, NEW, 0, GOTO, 3).due(check, x, 1, -1);
        check.due("run", LONG, x.run(1, 0, 0, 0));
        check.gives(x, 0, 0, 0, 14, 0);
        counts(x, 0, 0, 48);
        check.gives(x, 0, 0, 0, 1, 0);
        counts(x, 1, 0, 3);
    }

    private static void withoutWhatWasTaken() {
        check.part("of a method that has called: without what the other one took");
        // What is taken, by whom, and how many of the objects stay when the taker has dropped it.
        int[][] calls = {{CALL, 2}, {CALL, 4}, {SEND, 1}, {SEND, 2}};
        for (int[] call : calls) {
            for (int kept = 0; kept < 2; kept++) {
                LazyCompiler x = pairs();
                check.due("slot(0, 1, 2)", true, x.slot(0, 1, 2));
                check.due("slot(0, 2, 4)", true, x.slot(0, 2, 4));
                int drop = kept == 0 ? 0 : 1;
                draft(NULL, 0, STORE, drop, INT, 15, CALL, 0, GIVE, 0).due(check, x, 2, -1);
                draft(NULL, 0, STORE, drop, INT, 15, CALL, 0, POP, 0, NULL, 0, GIVE, 0).due(check, x, 4, -1);
                draft(NEW, 0, NEW, 0, INT, 3, call[0], call[1], POP, 0, IS, 0, GIVE, 0).due(check, x, 1, -1);
                check.gives(x, 1, 0, 0, 0, 1);
                counts(x, 1, 1 + kept, 6 + 3 * kept);
            }
        }
        // Both REFs that method 7 takes.
        LazyCompiler x = pairs();
        draft(NULL, 0, STORE, 0, NULL, 0, STORE, 1, INT, 14, CALL, 0, GIVE, 0).due(check, x, 7, -1);
        draft(NEW, 0, NEW, 0, NEW, 0, CALL, 7, POP, 0, IS, 0, GIVE, 0).due(check, x, 1, -1);
        check.gives(x, 1, 0, 0, 0, 1);
        counts(x, 1, 1, 6);
        // What a run takes is the method's own alone.
        x = pairs();
        draft(NEW, 0, GIVE, 0).due(check, x, 6, -1);
        check.gives(x, 6, 0, 0, 0, 0);
        draft(NULL, 0, KEEP, 3, NULL, 0, STORE, 0, INT, 16, CALL, 0, GIVE, 0).due(check, x, 2, -1);
        check.gives(x, 2, 3, 0, 0, 0);
        counts(x, 1, 0, 3);
    }

    private static void takenByInitialiser() {
        check.part("of a method whose NEW has called: nothing was taken");
        LazyCompiler x = pairs();
        check.due("cls(1, ..)", true, x.cls(1, -1, 0, 0));
        check.due("initialiser(1, 1)", true, x.initialiser(1, 1));
        draft(INT, 15, CALL, 0, GIVE, 0).due(check, x, 1, -1);
        draft(NEW, 0, STORE, 1, NEW, 0, NEW, 1, POP, 0, LOAD, 1, SAME, 0, GIVE, 0).due(check, x, 3, -1);
        check.gives(x, 3, 0, 0, 0, 0);
        counts(x, 1, 2, 6 + 3 + 1);
    }

    /** Class 0 has a reference (2 words), class 1 nothing; method 1 makes a chain at GLOBAL 0. */
    private static LazyCompiler chain(int length) {
        LazyCompiler x = new LazyCompiler();
        check.due("cls(0, ..)", true, x.cls(0, -1, 0, 1));
        check.due("cls(1, ..)", true, x.cls(1, -1, 0, 0));
        draft(LOAD, 0, ZERO, 12, NEW, 0, DUP, 0, FETCH, 0, PUT, 0, KEEP, 0, LOAD, 0, INT, 1, SUB, 0, STORE, 0, GOTO, 0,
            LOAD, 0, GIVE, 0).due(check, x, 1, -1);
        check.gives(x, 1, 0, 0, length, 0);
        counts(x, 0, 0, 2 * length);
        draft(NEW, 0, POP, 0, INT, 8, GIVE, 0).due(check, x, 2, -1);
        draft(NEW, 1, POP, 0, INT, 8, GIVE, 0).due(check, x, 3, -1);
        return x;
    }

    private static void stillNoRoom() {
        check.part("if there is still no room, NEW THROWS 6");
        LazyCompiler x = chain(24);
        check.throwsOut(x, 3, 0, 0, 6, 3 * 32);
        counts(x, 1, 24, 48);
        check.throwsOut(x, 2, 0, 0, 6, 2 * 32);
        counts(x, 2, 48, 48);
        check.due("READY all the same", 3, x.count(6));
        // One word is free when two are needed.
        x = chain(23);
        draft(NEW, 1, GIVE, 0).due(check, x, 6, -1);
        check.gives(x, 6, 0, 0, 0, 1);
        counts(x, 0, 0, 47);
        check.throwsOut(x, 2, 0, 0, 6, 2 * 32);
        counts(x, 1, 24, 47);
        check.gives(x, 3, 0, 0, 0, 8);
        counts(x, 1, 24, 48);
        check.gives(x, 3, 0, 0, 0, 8);
        counts(x, 2, 48, 48);
    }

    private static void exactlyRoom() {
        check.part("NEW finds room up to the last word");
        LazyCompiler x = chain(23);
        check.gives(x, 3, 0, 0, 0, 8);
        counts(x, 0, 0, 47);
        check.gives(x, 2, 0, 0, 0, 8);
        counts(x, 1, 23, 48);
        check.gives(x, 3, 0, 0, 0, 8);
        counts(x, 2, 46, 47);
        check.gives(x, 3, 0, 0, 0, 8);
        counts(x, 2, 46, 48);
        check.due("the chain", true, x.go(0, 0));
        check.gives(x, 2, 0, 0, 0, 8);
        counts(x, 3, 46 + 22, 46);
    }

    // ---- FIRST NEW ----

    /** Four classes, each below the one before; class c has an INITIALISER if its bit is set. */
    private static LazyCompiler ladder(int initialised, int m) {
        LazyCompiler x = new LazyCompiler();
        for (int c = 0; c < 4; c++) {
            check.due("cls(" + c + ", ..)", true, x.cls(c, c - 1, 0, 0));
            if ((initialised >> c & 1) != 0) check.due("initialiser(" + c + ", ..)", true, x.initialiser(c, m));
        }
        return x;
    }

    private static void readyFromUppermost() {
        check.part("NEW makes READY, from the uppermost one on, its class and the ones above it, as far as they are not");
        for (int initialised = 0; initialised < 16; initialised++) {
            for (int c = 0; c < 4; c++) {
                LazyCompiler x = ladder(initialised, 0);
                // What it throws is the class it was called with, so that a run is done up to the next INITIALISER.
                draft(LOAD, 0, THROW, 0).due(check, x, 0, -1);
                draft(NEW, c, GIVE, 0).due(check, x, 6, -1);
                for (int k = 0; k <= c; k++) {
                    if ((initialised >> k & 1) == 0) continue;
                    check.throwsOut(x, 6, 0, 0, k, 1);
                    check.due("count(6)", (2 << k) - 1, x.count(6));
                    check.due("count(0)", 3, x.count(0));
                }
                check.gives(x, 6, 0, 0, 0, c);
                check.due("count(6)", (2 << c) - 1, x.count(6));
                check.due("count(0)", 2, x.count(0));
                check.gives(x, 6, 0, 0, 0, c);
                check.due("count(6)", (2 << c) - 1, x.count(6));
            }
        }
        // A class beside it stays as it is.
        LazyCompiler x = new LazyCompiler();
        check.due("cls(3, ..)", true, x.cls(3, -1, 0, 0));
        check.due("cls(1, ..)", true, x.cls(1, 3, 0, 0));
        check.due("cls(2, ..)", true, x.cls(2, 3, 0, 0));
        draft(NEW, 1, GIVE, 0).due(check, x, 6, -1);
        check.gives(x, 6, 0, 0, 0, 1);
        check.due("count(6)", 8 + 2, x.count(6));
    }

    private static void readyBeforeAllElse() {
        check.part("before all else NEW makes READY");
        LazyCompiler x = chain(24);
        check.due("initialiser(1, 0)", true, x.initialiser(1, 0));
        // The room is full, but the INITIALISER lets go of what fills it.
        draft(NULL, 0, KEEP, 0, INT, 1, GIVE, 0).due(check, x, 0, -1);
        check.gives(x, 3, 1, 1, 0, 8);
        counts(x, 1, 0, 1);
        check.due("count(0)", 1 + 4 + 4, x.count(0));
    }

    private static void initialiserNumber() {
        check.part("that is called with the number of that class");
        for (int c = 0; c < 4; c++) {
            for (int m = 0; m < 2; m++) {
                LazyCompiler x = ladder(1 << c, m);
                draft(LOAD, 0, INT, 100, ADD, 0, THROW, 0).due(check, x, m, -1);
                draft(NEW, 3, GIVE, 0).due(check, x, 6, -1);
                check.throwsOut(x, 6, 2, 77, 100 + c, 32 * m + 3);
                check.gives(x, 6, 0, 0, 0, 3);
            }
        }
    }

    private static void initialiserWithoutBody() {
        check.part("the first of these that has an INITIALISER with a body");
        LazyCompiler x = ladder(1, 0);
        check.due("initialiser(1, 1)", true, x.initialiser(1, 1));
        check.due("initialiser(2, 0)", true, x.initialiser(2, 0));
        draft(LOAD, 0, THROW, 0).due(check, x, 1, -1);
        draft(NEW, 3, GIVE, 0).due(check, x, 6, -1);
        check.throwsOut(x, 6, 0, 0, 1, 32 + 1);
        check.due("passed by", 3, x.count(6));
        draft(LOAD, 0, THROW, 0).due(check, x, 0, -1);
        check.throwsOut(x, 6, 0, 0, 2, 1);
        check.due("not called for class 0 any more", 7, x.count(6));
        check.gives(x, 6, 0, 0, 0, 3);
        // None any more, before it is READY.
        x = ladder(15, 0);
        draft(LOAD, 0, THROW, 0).due(check, x, 0, -1);
        for (int c = 0; c < 3; c++) check.due("initialiser(" + c + ", -1)", true, x.initialiser(c, -1));
        draft(NEW, 3, GIVE, 0).due(check, x, 6, -1);
        check.throwsOut(x, 6, 0, 0, 3, 1);
        check.gives(x, 6, 0, 0, 0, 3);
    }

    /** Ten frames of 11 words, the last of which does NEW 3, leave 10 words; class 3 has INITIALISER 1. */
    private static LazyCompiler highNew(int height) {
        LazyCompiler x = ladder(8, 1);
        draft().times(height, INT, 6).add(GIVE, 0).due(check, x, 1, -1);
        draft(LOAD, 0, ZERO, 7, LOAD, 0, INT, 1, SUB, 0, CALL, 0, GIVE, 0, NEW, 3, IS, 3, GIVE, 0).due(check, x, 0, -1);
        check.due("body(0, 1)", 11, x.body(0, 1));
        return x;
    }

    private static void initialiserWithoutRoom() {
        check.part("THROWS 5 if there is no room for its frame");
        LazyCompiler x = highNew(1);
        check.gives(x, 0, 0, 0, 9, 1);
        x = highNew(2);
        check.throwsOut(x, 0, 0, 9, 5, 7);
        check.due("no object", 0, x.count(3));
        check.due("count(6)", 15, x.count(6));
        check.gives(x, 0, 0, 0, 9, 1);
        check.due("an object", 1, x.count(3));
        x = highNew(6);
        check.gives(x, 0, 0, 0, 8, 1);
    }

    private static void newOnceMore() {
        check.part("what it gives is dropped, and NEW is done once more, as one more instruction");
        for (int initialised = 0; initialised < 16; initialised++) {
            LazyCompiler x = ladder(initialised, 0);
            draft(INT, 1, INT, 2, INT, 3, INT, 4, GIVE, 0).due(check, x, 0, -1);
            draft(NULL, 0, NULL, 0, NULL, 0, NULL, 0, NULL, 0, NEW, 3, GIVE, 0).due(check, x, 6, -1);
            check.gives(x, 6, 0, 0, 0, 3);
            int called = Integer.bitCount(initialised);
            check.due("count(0)", 7 + called * 6, x.count(0));
            check.due("one object", 1, x.count(3));
        }
        // The NEW that is done once more is the 1001st instruction, or the GIVE behind it, or neither.
        for (int more = 0; more < 3; more++) {
            LazyCompiler x = ladder(8, 0);
            HelpDraft d = draft(INT, 140, STORE, 0, LOAD, 0, ZERO, 9, LOAD, 0, INT, 1, SUB, 0, STORE, 0, GOTO, 2);
            // 2 + 7 * 140 + 2 = 984, with the NEW before it 985; 15 are left, the last two of which are NEW and GIVE.
            for (int i = 0; i < 5; i++) d.add(INT, 1, POP, 0);
            for (int i = 0; i < more; i++) d.add(GOTO, d.size() + 1);
            d.add(GOTO, d.size() + 1, INT, 1, GIVE, 0).due(check, x, 0, -1);
            draft(NEW, 3, GIVE, 0).due(check, x, 6, -1);
            if (more == 0) check.gives(x, 6, 0, 0, 0, 3);
            else check.due("run", LONG, x.run(6, 0, 0, 0));
            check.due("count(0)", 1000, x.count(0));
            check.due("an object", more < 2 ? 1 : 0, x.count(3));
        }
    }

    private static void staysReady() {
        check.part("classes stay READY");
        LazyCompiler x = ladder(0, 0);
        draft(NEW, 1, GIVE, 0).due(check, x, 6, -1);
        check.gives(x, 6, 0, 0, 0, 1);
        check.due("count(6)", 3, x.count(6));
        draft(LOAD, 0, THROW, 0).due(check, x, 0, -1);
        for (int c = 0; c < 3; c++) check.due("initialiser(" + c + ", 0)", true, x.initialiser(c, 0));
        check.gives(x, 6, 0, 0, 0, 1);
        draft(NEW, 2, GIVE, 0).due(check, x, 6, -1);
        check.throwsOut(x, 6, 0, 0, 2, 1);
        check.gives(x, 6, 0, 0, 0, 2);
        check.due("count(6)", 7, x.count(6));
        draft(LOAD, 0, THROW, 0).due(check, x, 0, -1);
        check.gives(x, 6, 0, 0, 0, 2);
        // Its own NEW, in the INITIALISER itself, finds the class READY; one below it is not yet.
        x = ladder(3, 0);
        draft(LOAD, 0, ZERO, 4, INT, 1, GIVE, 0, NEW, 0, POP, 0, NEW, 1, POP, 0, INT, 1, GIVE, 0).due(check, x, 0, -1);
        draft(NEW, 0, GIVE, 0).due(check, x, 6, -1);
        check.gives(x, 6, 0, 0, 0, 0);
        check.due("count(6)", 3, x.count(6));
        check.due("count(0)", 1 + 2 + 2 + 1 + 4 + 1 + 3 + 2, x.count(0));
        check.due("three objects", 3, x.count(3));
    }

    // ---- CODE ----

    private static void turnedWhenCalled() {
        check.part("a body is turned into code when it is to be called for the first time");
        LazyCompiler x = ladder(1, 1);
        for (int m = 0; m < 8; m++) draft(m >= 4 && m <= 6 ? NULL : INT, 0, GIVE, 0).due(check, x, m, -1);
        check.due("not when made", 0, x.count(4));
        for (int m = 7; m >= 0; m--) {
            check.due("run(" + m + ", ..)", OK, x.run(m, 0, 0, 0));
            check.due("run(" + m + ", ..)", OK, x.run(m, 0, 0, 0));
            check.due("once each", 8 - m, x.count(4));
        }
        check.due("run that is REFUSED", LazyCompiler.REFUSED, x.run(8, 0, 0, 0));
        check.due("count(4)", 8, x.count(4));
        // Another body, by CALL, by SEND, and as INITIALISER.
        draft(INT, 2, GIVE, 0).due(check, x, 1, -1);
        draft(INT, 2, GIVE, 0).due(check, x, 2, -1);
        draft(INT, 2, GIVE, 0).due(check, x, 3, -1);
        check.due("slot(0, 0, 2)", true, x.slot(0, 0, 2));
        draft(NEW, 0, DUP, 0, INT, 0, SEND, 0, CALL, 3, GIVE, 0).due(check, x, 0, -1);
        check.due("count(4)", 8, x.count(4));
        check.gives(x, 0, 0, 0, 0, 2);
        check.due("count(4)", 12, x.count(4));
        check.gives(x, 0, 0, 0, 0, 2);
        check.due("count(4)", 12, x.count(4));
    }

    private static void turnedBeforeRoom() {
        check.part("before room is looked for");
        LazyCompiler x = highNew(2);
        check.throwsOut(x, 0, 0, 9, 5, 7);
        check.due("an INITIALISER", 2, x.count(4));
        check.due("run(1, ..)", OK, x.run(1, 0, 0, 0));
        check.due("already", 2, x.count(4));
        for (int by : new int[] {CALL, SEND}) {
            x = ladder(0, 0);
            draft(NEW, 0, GIVE, 0).due(check, x, 6, -1);
            check.gives(x, 6, 0, 0, 0, 0);
            check.due("slot(0, 0, 2)", true, x.slot(0, 0, 2));
            draft(LOAD, 0, ZERO, 7, LOAD, 0, INT, 1, SUB, 0, CALL, 0, GIVE, 0, FETCH, 3, INT, 0, by, by == CALL ? 2 : 0,
                GIVE, 0).due(check, x, 0, -1);
            check.throwsOut(x, 0, 0, 9, 4, 9);
            check.due("no body", 2, x.count(4));
            draft(INT, 1, INT, 1, GIVE, 0).due(check, x, 2, -1);
            check.throwsOut(x, 0, 0, 9, 5, 9);
            check.due("no room", 3, x.count(4));
            check.gives(x, 0, 0, 0, 0, 1);
            check.due("already", 3, x.count(4));
        }
    }

    // ---- LINKS ----

    private static void linkedWhenDone() {
        check.part("a CALL is LINKED when it is done for the first time with a body to call");
        LazyCompiler x = ladder(0, 0);
        draft(LOAD, 0, ZERO, 5, INT, 3, CALL, 1, GIVE, 0, INT, 4, CALL, 1, GIVE, 0).due(check, x, 0, -1);
        check.throwsOut(x, 0, 0, 0, 4, 6);
        check.throwsOut(x, 0, 0, 1, 4, 3);
        check.due("no body", 0, x.count(5));
        draft(LOAD, 0, GIVE, 0).due(check, x, 1, -1);
        check.due("not when made", 0, x.count(5));
        check.gives(x, 0, 0, 0, 0, 4);
        check.due("the one that was done", 1, x.count(5));
        check.gives(x, 0, 0, 0, 0, 4);
        check.due("once", 1, x.count(5));
        check.gives(x, 0, 0, 0, 1, 3);
        check.due("the other one", 2, x.count(5));
        check.gives(x, 1, 0, 0, 1, 1);
        check.due("a run is no CALL", 2, x.count(5));
        check.due("initialiser(0, 1)", true, x.initialiser(0, 1));
        check.due("slot(0, 3, 5)", true, x.slot(0, 3, 5));
        draft(LOAD, 0, GIVE, 0).due(check, x, 5, -1);
        draft(NEW, 0, INT, 1, SEND, 3, GIVE, 0).due(check, x, 6, -1);
        check.gives(x, 6, 0, 0, 0, 0);
        check.due("neither a NEW nor a SEND is one", 2, x.count(5));
        // No CALL can stand farther behind, in a higher method.
        draft().times(21, GOTO, 21).add(INT, 7, CALL, 1, GIVE, 0).due(check, x, 7, -1);
        check.gives(x, 7, 0, 0, 0, 7);
        check.due("instruction 22", 3, x.count(5));
        check.gives(x, 7, 0, 0, 0, 7);
        check.due("instruction 22", 3, x.count(5));
    }

    private static void linkedWithoutRoom() {
        check.part("also if there is no room for the frame");
        LazyCompiler x = new LazyCompiler();
        draft(LOAD, 0, ZERO, 7, LOAD, 0, INT, 1, SUB, 0, CALL, 0, GIVE, 0, INT, 0, CALL, 1, GIVE, 0).due(check, x, 0, -1);
        check.throwsOut(x, 0, 0, 9, 4, 8);
        check.due("no body, no room", 1, x.count(5));
        draft(INT, 1, INT, 1, GIVE, 0).due(check, x, 1, -1);
        check.throwsOut(x, 0, 0, 9, 5, 8);
        check.due("no room", 2, x.count(5));
        check.gives(x, 0, 0, 0, 8, 1);
        check.due("already", 2, x.count(5));
    }

    private static void unlinked() {
        check.part("when a method gets another body, none of its own CALLs is LINKED, and no CALL of it");
        for (int m = 0; m < 8; m++) {
            LazyCompiler x = new LazyCompiler();
            chainOfCalls(x);
            check.gives(x, 0, 0, 0, 0, 6);
            check.due("all seven", 7, x.count(5));
            chainBody(x, m);
            check.due("not when made", 7, x.count(5));
            check.gives(x, 0, 0, 0, 0, 6);
            // The first is called by none of them, and the last calls none.
            check.due("after method " + m, 7 + (m == 0 || m == 7 ? 1 : 2), x.count(5));
            check.due("turned once more", 9, x.count(4));
            check.draft(x, GOTO, 1);
            check.due("make(" + m + ")", LazyCompiler.REFUSED, x.make(m));
            check.gives(x, 0, 0, 0, 0, 6);
            check.due("not by a REFUSED make", 7 + (m == 0 || m == 7 ? 1 : 2), x.count(5));
        }
        // A CALL that is the first instruction of the first method.
        LazyCompiler x = new LazyCompiler();
        draft(NULL, 0, GIVE, 0).due(check, x, 6, -1);
        for (int i = 1; i <= 3; i++) {
            draft(CALL, 6, POP, 0, INT, 5, GIVE, 0).due(check, x, 0, -1);
            check.gives(x, 0, 0, 0, 1, 5);
            check.due("its own", 2 * i - 1, x.count(5));
            draft(NULL, 0, GIVE, 0).due(check, x, 6, -1);
            check.gives(x, 0, 0, 0, 1, 5);
            check.due("of it", 2 * i, x.count(5));
        }
        // Its own CALL of itself is one, not two.
        x = new LazyCompiler();
        for (int i = 1; i <= 3; i++) {
            draft(LOAD, 0, ZERO, 5, INT, 0, CALL, 0, GIVE, 0, INT, 5, GIVE, 0).due(check, x, 0, -1);
            check.gives(x, 0, 0, 0, 1, 5);
            check.due("once for each body", i, x.count(5));
        }
    }

    private static void chainOfCalls(LazyCompiler x) {
        for (int m = 0; m < 8; m++) chainBody(x, m);
    }

    /** Method m calls the next one; the last one gives 6. */
    private static void chainBody(LazyCompiler x, int m) {
        if (m == 7) {
            draft(INT, 6, GIVE, 0).due(check, x, 7, -1);
            return;
        }
        boolean givesRef = m >= 4 && m <= 6, getsRef = m >= 3 && m <= 5;
        HelpDraft d = draft();
        if (m == 0) d.add(INT, 0);
        else if (m == 6) d.add(NULL, 0, NULL, 0);
        else if (m < 5) d.add(NULL, 0, INT, 0);
        d.add(CALL, m + 1);
        if (givesRef != getsRef) d.add(POP, 0, givesRef ? NULL : INT, 6);
        else if (m < 3) d.add(POP, 0, INT, 6);
        d.add(GIVE, 0).due(check, x, m, -1);
    }
}
