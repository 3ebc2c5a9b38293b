/** "Terms" up to what THROWS does: for each sentence the last that is taken and the first that is not. */
public final class TermEdgesTest implements HelpOps {
    private static final int OK = LazyCompiler.OK, REFUSED = LazyCompiler.REFUSED;
    private static final long NOTHING = LazyCompiler.NOTHING;
    private static final int LEAST = Integer.MIN_VALUE, MOST = Integer.MAX_VALUE;
    private static final HelpCheck check = new HelpCheck();

    public static void main(String[] args) {
        classNumbers();
        superOrNone();
        ownFields();
        fieldNumbers();
        fieldsWithoutOwn();
        slotNumbers();
        slotsOfSuper();
        methodNumbers();
        methodsForSlots();
        sixLocals();
        otherLocals();
        sixEntries();
        anyInt();
        nullPushed();
        localsApart();
        wrapping();
        divisors();
        less();
        zero();
        none();
        same();
        newFields();
        eachField();
        fieldOfNull();
        fieldOfOtherClass();
        is();
        fourDeep();
        callWithoutBody();
        callWithoutRoom();
        sendToNull();
        sendWithoutMethod();
        sendWithoutRoom();
        give();
        anyThrown();
        whateverItIs();
        globalNumbers();
        thrownInRange();
        thrownWhereCalled();
        stackOfThrown();
        localsOfThrown();
        check.end();
    }

    private static LazyCompiler withClass(int ints, int references) {
        LazyCompiler x = new LazyCompiler();
        check.due("cls(0, ..)", true, x.cls(0, -1, ints, references));
        return x;
    }

    /** Class 1 is below class 0 and above class 2, class 3 by itself; each has an int; GLOBAL g refers to one of class g. */
    private static LazyCompiler withObjects() {
        LazyCompiler x = withClass(1, 0);
        check.due("cls(1, ..)", true, x.cls(1, 0, 1, 0));
        check.due("cls(2, ..)", true, x.cls(2, 1, 1, 0));
        check.due("cls(3, ..)", true, x.cls(3, -1, 1, 0));
        check.made(x, 0, NEW, 0, KEEP, 0, NEW, 1, KEEP, 1, NEW, 2, KEEP, 2, NEW, 3, KEEP, 3, INT, 0, GIVE, 0);
        check.gives(x, 0, 0, 0, 0, 0);
        return x;
    }

    // ---- CLASSES, FIELDS, SLOTS, METHODS ----

    private static void classNumbers() {
        check.part("CLASSES 0..3");
        for (int c = 0; c < 4; c++) check.due("cls(" + c + ", ..)", true, new LazyCompiler().cls(c, -1, 0, 0));
        for (int c : new int[] {-1, 4, LEAST, MOST}) {
            check.due("cls(" + c + ", ..)", false, new LazyCompiler().cls(c, -1, 0, 0));
        }
    }

    private static void superOrNone() {
        check.part("CLASSES have a SUPER or none");
        for (int up = 0; up < 4; up++) {
            LazyCompiler x = new LazyCompiler();
            int c = (up + 1) % 4;
            check.due("not there yet", false, x.cls(c, up, 0, 0));
            check.due("itself", false, x.cls(up, up, 0, 0));
            check.due("none", true, x.cls(up, -1, 0, 0));
            check.due("there", true, x.cls(c, up, 0, 0));
        }
        for (int up : new int[] {-2, 4, LEAST, MOST}) {
            check.due("up " + up, false, new LazyCompiler().cls(0, up, 0, 0));
        }
    }

    private static void ownFields() {
        check.part("0..2 own ints and 0..2 own references");
        int[] numbers = {LEAST, -1, 0, 1, 2, 3, MOST};
        for (int ints : numbers) {
            for (int references : numbers) {
                boolean due = ints >= 0 && ints <= 2 && references >= 0 && references <= 2;
                String call = "cls(0, -1, " + ints + ", " + references + ")";
                check.due(call, due, new LazyCompiler().cls(0, -1, ints, references));
            }
        }
    }

    /** Looks for each FIELD number of class c whether it is an int (I), a reference (R) or not there. */
    private static void fieldsAre(LazyCompiler x, int c, String kinds) {
        for (int f = 0; f < 16; f++) {
            char kind = f < kinds.length() ? kinds.charAt(f) : '-';
            x.wipe();
            x.code(NULL, 0);
            x.code(GET, c * 16 + f);
            x.code(GIVE, 0);
            int place = kind == '-' ? 1 : 2;
            check.due("FIELD " + f + " of " + c + " as an int", kind == 'I' ? OK : REFUSED, x.make(0));
            check.due("place()", kind == 'I' ? -1 : place, x.place());
            if (kind == 'I') continue;
            check.due("FIELD " + f + " of " + c + " as a reference", kind == 'R' ? OK : REFUSED, x.make(6));
            check.due("place()", kind == 'R' ? -1 : place, x.place());
        }
    }

    private static void fieldNumbers() {
        check.part("those of its SUPER, then its own ints, then its own references, with numbers from 0 on");
        for (int ints = 0; ints < 3; ints++) {
            for (int references = 0; references < 3; references++) {
                String own = "I".repeat(ints) + "R".repeat(references);
                fieldsAre(withClass(ints, references), 0, own);
                LazyCompiler x = withClass(1, 1);
                check.due("cls(3, 0, ..)", true, x.cls(3, 0, ints, references));
                fieldsAre(x, 3, "IR" + own);
            }
        }
        String[] due = {"IIRR", "IIRRIIRR", "IIRRIIRRIIRR", "IIRRIIRRIIRRIIRR"};
        for (int c = 0; c < 4; c++) {
            LazyCompiler x = withClass(2, 2);
            for (int k = 1; k < 4; k++) check.due("cls(" + k + ", ..)", true, x.cls(k, k - 1, 2, 2));
            fieldsAre(x, c, due[c]);
        }
    }

    private static void fieldsWithoutOwn() {
        check.part("the FIELDS of a class, none of its own");
        LazyCompiler x = withClass(0, 0);
        check.due("cls(1, 0, 0, 0)", true, x.cls(1, 0, 0, 0));
        fieldsAre(x, 1, "");
        x = withClass(2, 1);
        check.due("cls(1, 0, 0, 0)", true, x.cls(1, 0, 0, 0));
        check.due("cls(2, 1, 0, 0)", true, x.cls(2, 1, 0, 0));
        fieldsAre(x, 2, "IIR");
    }

    /** Methods 2 to 5 tell who they are: INT 20, INT 30, an object with 40, one with 50. */
    private static void tellingMethods(LazyCompiler x) {
        check.made(x, 2, INT, 20, GIVE, 0);
        check.made(x, 3, INT, 30, GIVE, 0);
        check.made(x, 4, LOAD, 0, INT, 40, PUT, 0, LOAD, 0, GIVE, 0);
        check.made(x, 5, LOAD, 0, INT, 50, PUT, 0, LOAD, 0, GIVE, 0);
    }

    private static void sends(LazyCompiler x, int g, int slot, int due) {
        if (slot < 2) check.made(x, 7, LOAD, 0, INT, 0, SEND, slot, GIVE, 0);
        else check.made(x, 7, LOAD, 0, INT, 0, SEND, slot, GET, 0, GIVE, 0);
        if (due == 4) check.throwsOut(x, 7, g, 0, 4, 7 * 32 + 2);
        else check.gives(x, 7, g, 0, 0, due);
    }

    private static void slotNumbers() {
        check.part("for SLOTS 0..3 a class has a method");
        int[] other = {30, 20, 50, 40};
        for (int slot = 0; slot < 4; slot++) {
            LazyCompiler x = withObjects();
            tellingMethods(x);
            for (int s = 0; s < 4; s++) {
                if (s != slot) check.due("slot(0, " + s + ", ..)", true, x.slot(0, s, s < 2 ? 2 : 4));
            }
            sends(x, 0, slot, 4);
            check.due("slot(0, " + slot + ", ..)", true, x.slot(0, slot, slot < 2 ? 3 - slot : 7 - slot));
            sends(x, 0, slot, other[slot]);
            sends(x, 0, slot ^ 1, slot < 2 ? 20 : 40);
        }
        for (int slot : new int[] {-1, 4, LEAST, MOST}) {
            LazyCompiler x = withClass(0, 0);
            for (int m = -1; m < 8; m++) check.due("slot(0, " + slot + ", " + m + ")", false, x.slot(0, slot, m));
            check.due("code(SEND, " + slot + ")", REFUSED, x.code(SEND, slot));
        }
    }

    private static void slotsOfSuper() {
        check.part("without one of its own that of its SUPER, or none");
        LazyCompiler x = withObjects();
        tellingMethods(x);
        sends(x, 2, 0, 4);
        check.due("the uppermost", true, x.slot(0, 0, 2));
        sends(x, 2, 0, 20);
        check.due("the one between", true, x.slot(1, 0, 3));
        sends(x, 2, 0, 30);
        sends(x, 0, 0, 20);
        check.due("none between", true, x.slot(1, 0, -1));
        check.due("its own", true, x.slot(2, 0, 3));
        sends(x, 2, 0, 30);
        sends(x, 1, 0, 20);
        sends(x, 3, 0, 4);
        check.due("not its own any more", true, x.slot(2, 0, -1));
        sends(x, 2, 0, 20);
        check.due("nor the uppermost's", true, x.slot(0, 0, -1));
        sends(x, 2, 0, 4);
    }

    private static void methodNumbers() {
        check.part("METHODS 0..7 take and GIVE");
        int[] takes = {1, 1, 2, 2, 2, 2, 0, 2};
        String[] kinds = {"I", "I", "RI", "RI", "RI", "RI", "", "RR"};
        for (int m = 0; m < 8; m++) {
            boolean givesRef = m >= 4 && m <= 6;
            for (int l = 0; l < 6; l++) {
                LazyCompiler x = new LazyCompiler();
                char kind = l < takes[m] ? kinds[m].charAt(l) : '-';
                check.draft(x, LOAD, l, kind == 'R' ? NONE : ZERO, 2, givesRef ? NULL : INT, 0, GIVE, 0);
                check.due("make(" + m + ")", kind == '-' ? REFUSED : OK, x.make(m));
                check.due("place()", kind == '-' ? 0 : -1, x.place());
            }
            LazyCompiler x = new LazyCompiler();
            check.refused(x, m, 1, givesRef ? INT : NULL, 0, GIVE, 0);
            check.made(x, m, givesRef ? NULL : INT, 0, GIVE, 0);
            check.gives(x, m, 0, 0, 0, givesRef ? -1 : 0);
        }
        for (int m : new int[] {-1, 8, LEAST, MOST}) {
            LazyCompiler x = new LazyCompiler();
            check.draft(x, GOTO, 0);
            check.due("make(" + m + ")", REFUSED, x.make(m));
            check.due("code(CALL, " + m + ")", REFUSED, x.code(CALL, m));
        }
    }

    private static void methodsForSlots() {
        check.part("SLOTS 0 and 1 may have methods 2, 3; SLOTS 2 and 3 methods 4, 5");
        LazyCompiler x = withClass(0, 0);
        int[] methods = {LEAST, -2, 0, 1, 2, 3, 4, 5, 6, 7, 8, MOST};
        for (int slot = 0; slot < 4; slot++) {
            for (int m : methods) {
                boolean due = slot < 2 ? m == 2 || m == 3 : m == 4 || m == 5;
                check.due("slot(0, " + slot + ", " + m + ")", due, x.slot(0, slot, m));
            }
        }
    }

    // ---- FRAME ----

    private static void sixLocals() {
        check.part("a FRAME has six LOCALS");
        for (int op : new int[] {LOAD, STORE}) {
            LazyCompiler x = new LazyCompiler();
            for (int l : new int[] {-1, 6, LEAST, MOST}) check.due("LOCAL " + l, REFUSED, x.code(op, l));
            for (int l = 0; l < 6; l++) check.due("LOCAL " + l, l + 1, x.code(op, l));
        }
    }

    private static void otherLocals() {
        check.part("neither (TOP), as the other LOCALS are at first");
        LazyCompiler x = new LazyCompiler();
        for (int l = 1; l < 6; l++) {
            check.refused(x, 0, 2, INT, 7, POP, 0, LOAD, l, GIVE, 0);
            check.made(x, 0, INT, 7, STORE, l, LOAD, l, GIVE, 0);
            check.gives(x, 0, 0, 0, 1, 7);
        }
        check.refused(x, 7, 0, LOAD, 2, POP, 0, INT, 1, GIVE, 0);
        check.refused(x, 6, 0, LOAD, 0, GIVE, 0);
    }

    private static int[] repeated(int times, int op, int a, int... end) {
        int[] pairs = new int[2 * times + end.length];
        for (int i = 0; i < times; i++) {
            pairs[2 * i] = op;
            pairs[2 * i + 1] = a;
        }
        System.arraycopy(end, 0, pairs, 2 * times, end.length);
        return pairs;
    }

    private static void sixEntries() {
        check.part("a stack of up to six entries");
        LazyCompiler x = new LazyCompiler();
        check.made(x, 0, repeated(6, INT, 3, GIVE, 0));
        check.due("its frame", 9 + 6, x.body(0, 1));
        check.gives(x, 0, 0, 0, 0, 3);
        check.refused(x, 0, 6, repeated(7, INT, 3, GIVE, 0));
        check.made(x, 0, INT, 1, INT, 2, INT, 3, INT, 4, INT, 5, INT, 6, SUB, 0, SUB, 0, SUB, 0, SUB, 0, SUB, 0, GIVE, 0);
        check.gives(x, 0, 0, 0, 0, 1 - (2 - (3 - (4 - (5 - 6)))));
    }

    // ---- INSTRUCTIONS ----

    private static void anyInt() {
        check.part("INT a: pushes a");
        LazyCompiler x = new LazyCompiler();
        for (int a : new int[] {LEAST, LEAST + 1, -1, 0, 1, 24, 64, MOST}) {
            check.made(x, 0, INT, a, GIVE, 0);
            check.gives(x, 0, 0, 0, 5, a);
        }
    }

    private static void nullPushed() {
        check.part("NULL: pushes null");
        for (int below = 0; below < 6; below++) {
            LazyCompiler x = new LazyCompiler();
            int[] locals = {INT, 9, STORE, 0, INT, 9, STORE, 1, INT, 9, STORE, 2, INT, 9, STORE, 3, INT, 9, STORE, 5};
            x.wipe();
            for (int i = 0; i < locals.length; i += 2) x.code(locals[i], locals[i + 1]);
            for (int i = 0; i < below; i++) x.code(INT, 8);
            int at = 10 + below;
            int[] end = {NULL, 0, NONE, at + 4, INT, 1, THROW, 0, LOAD, 5, GIVE, 0};
            for (int i = 0; i < end.length; i += 2) x.code(end[i], end[i + 1]);
            check.due("make(0)", below < 6 ? OK : REFUSED, x.make(0));
            check.gives(x, 0, 0, 0, 0, 9);
        }
    }

    private static void localsApart() {
        check.part("LOAD a: pushes LOCAL a; STORE a: pops into it");
        LazyCompiler x = new LazyCompiler();
        int[] fill = new int[24];
        for (int l = 0; l < 6; l++) {
            fill[4 * l] = INT;
            fill[4 * l + 1] = 100 + l;
            fill[4 * l + 2] = STORE;
            fill[4 * l + 3] = l;
        }
        for (int l = 0; l < 6; l++) {
            int[] pairs = java.util.Arrays.copyOf(fill, 28);
            pairs[24] = LOAD;
            pairs[25] = l;
            pairs[26] = GIVE;
            check.made(x, 0, pairs);
            check.gives(x, 0, 0, 0, 1, 100 + l);
        }
    }

    private static void calculates(int op, int p, int q, int due) {
        LazyCompiler x = new LazyCompiler();
        check.made(x, 0, INT, p, LOAD, 0, op, 0, GIVE, 0);
        check.gives(x, 0, 0, 0, q, due);
    }

    private static void wrapping() {
        check.part("ADD, SUB and DIV are those of Java ints: they wrap, and DIV cuts towards 0");
        calculates(ADD, MOST - 1, 1, MOST);
        calculates(ADD, MOST, 1, LEAST);
        calculates(ADD, LEAST + 1, -1, LEAST);
        calculates(ADD, LEAST, -1, MOST);
        calculates(ADD, LEAST, LEAST, 0);
        calculates(ADD, MOST, MOST, -2);
        calculates(SUB, LEAST + 1, 1, LEAST);
        calculates(SUB, LEAST, 1, MOST);
        calculates(SUB, MOST - 1, -1, MOST);
        calculates(SUB, MOST, -1, LEAST);
        calculates(SUB, 0, LEAST, LEAST);
        calculates(DIV, LEAST + 1, -1, MOST);
        calculates(DIV, LEAST, -1, LEAST);
        calculates(DIV, LEAST, 1, LEAST);
        calculates(DIV, LEAST, LEAST, 1);
        calculates(DIV, 5, 6, 0);
        calculates(DIV, -5, 6, 0);
        calculates(DIV, 6, -6, -1);
        calculates(DIV, 11, -6, -1);
        calculates(DIV, -11, 6, -1);
        calculates(DIV, -11, -6, 1);
        calculates(DIV, -12, 6, -2);
    }

    private static void divisors() {
        check.part("x / y (if y is 0 THROWS 1)");
        LazyCompiler x = new LazyCompiler();
        for (int p : new int[] {LEAST, -1, 0, 1, MOST}) {
            check.made(x, 0, INT, p, LOAD, 0, DIV, 0, GIVE, 0);
            check.throwsOut(x, 0, 0, 0, 1, 2);
            check.gives(x, 0, 0, 0, 1, p);
            check.gives(x, 0, 0, 0, -1, -p);
        }
        calculates(DIV, 0, 5, 0);
        calculates(DIV, 0, LEAST, 0);
    }

    private static void less() {
        check.part("1 if x is less than y, else 0");
        calculates(LESS, 4, 5, 1);
        calculates(LESS, 5, 5, 0);
        calculates(LESS, 6, 5, 0);
        calculates(LESS, -1, 0, 1);
        calculates(LESS, LEAST, MOST, 1);
        calculates(LESS, MOST, LEAST, 0);
        calculates(LESS, LEAST, LEAST + 1, 1);
        calculates(LESS, LEAST, LEAST, 0);
        calculates(LESS, MOST, MOST, 0);
        calculates(LESS, MOST - 1, MOST, 1);
    }

    private static void zero() {
        check.part("ZERO a: pops an INT, goes to a if it is 0");
        LazyCompiler x = new LazyCompiler();
        check.made(x, 0, LOAD, 0, ZERO, 4, INT, 5, GIVE, 0, INT, 6, GIVE, 0);
        check.gives(x, 0, 0, 0, 0, 6);
        for (int value : new int[] {LEAST, -1, 1, MOST}) check.gives(x, 0, 0, 0, value, 5);
    }

    private static void none() {
        check.part("NONE a: pops a REF, goes to a if it is null");
        LazyCompiler x = withObjects();
        check.made(x, 2, LOAD, 0, NONE, 4, INT, 5, GIVE, 0, INT, 6, GIVE, 0);
        for (int g = 0; g < 4; g++) check.gives(x, 2, g, 0, 0, 5);
        check.due("set(2, -1)", true, x.set(2, -1));
        check.gives(x, 2, 2, 0, 0, 6);
    }

    private static void same() {
        check.part("SAME: pops two REFs, pushes 1 if they are the same, else 0");
        LazyCompiler x = withObjects();
        check.made(x, 7, LOAD, 0, LOAD, 1, SAME, 0, GIVE, 0);
        check.gives(x, 7, 1, 1, 0, 1);
        check.gives(x, 7, 1, 2, 0, 0);
        check.due("set(2, 1)", true, x.set(2, 1));
        check.gives(x, 7, 1, 2, 0, 1);
        check.due("set(0, -1)", true, x.set(0, -1));
        check.gives(x, 7, 0, 1, 0, 0);
        check.gives(x, 7, 1, 0, 0, 0);
        check.due("set(3, -1)", true, x.set(3, -1));
        check.gives(x, 7, 0, 3, 0, 1);
        check.made(x, 0, NEW, 0, NEW, 0, SAME, 0, GIVE, 0);
        check.gives(x, 0, 0, 0, 0, 0);
    }

    private static void newFields() {
        check.part("NEW a: a new object of class a, with ints 0 and references null");
        LazyCompiler x = withClass(2, 2);
        check.made(x, 6, NEW, 0, GIVE, 0);
        // Fills 45 of 48 words with objects whose FIELDS are neither 0 nor null, so that the next NEW comes upon them.
        check.made(x, 0, NEW, 0, STORE, 1, LOAD, 1, INT, -1, PUT, 0, LOAD, 1, INT, -1, PUT, 1,
            LOAD, 1, LOAD, 1, PUT, 2, LOAD, 1, LOAD, 1, PUT, 3, INT, 0, GIVE, 0);
        for (int i = 0; i < 9; i++) check.gives(x, 0, 0, 0, 0, 0);
        check.due("words", 45, x.count(3));
        check.gives(x, 6, 0, 0, 0, 0);
        check.due("COLLECTIONS", 1, x.count(1));
        long[] due = {0, 0, 0, -1, -1, NOTHING};
        for (int what = 0; what < due.length; what++) check.due("look(3, " + what + ")", due[what], x.look(3, what));
    }

    private static void eachField() {
        check.part("GET a, PUT a are for FIELD a % 16 of class a / 16");
        for (int c = 0; c < 4; c++) {
            LazyCompiler x = withClass(2, 2);
            for (int k = 1; k < 4; k++) check.due("cls(" + k + ", ..)", true, x.cls(k, k - 1, 2, 2));
            check.made(x, 6, NEW, c, GIVE, 0);
            check.gives(x, 6, 0, 0, 0, c);
            for (int f = 0; f <= 4 * c + 3; f++) {
                boolean isInt = f % 4 < 2;
                check.made(x, 3, LOAD, 0, isInt ? LOAD : FETCH, isInt ? 1 : 3, PUT, 16 * c + f, INT, 1, GIVE, 0);
                check.gives(x, 3, 3, 0, 500 + f, 1);
            }
            for (int f = 0; f <= 4 * c + 3; f++) {
                boolean isInt = f % 4 < 2;
                check.due("look(3, " + (f + 1) + ")", isInt ? 500 + f : c, x.look(3, f + 1));
                if (isInt) check.made(x, 3, LOAD, 0, GET, 16 * c + f, GIVE, 0);
                else check.made(x, 3, LOAD, 0, GET, 16 * c + f, LOAD, 0, SAME, 0, GIVE, 0);
                check.gives(x, 3, 3, 0, 0, isInt ? 500 + f : 1);
            }
        }
    }

    private static void fieldOfNull() {
        check.part("both THROW 2 if that is null");
        LazyCompiler x = withObjects();
        check.due("set(0, -1)", true, x.set(0, -1));
        check.made(x, 2, LOAD, 0, GET, 0, GIVE, 0);
        check.throwsOut(x, 2, 0, 0, 2, 2 * 32 + 1);
        check.gives(x, 2, 1, 0, 0, 0);
        check.made(x, 2, LOAD, 0, LOAD, 1, PUT, 0, INT, 8, GIVE, 0);
        check.throwsOut(x, 2, 0, 0, 2, 2 * 32 + 2);
        check.gives(x, 2, 1, 0, 9, 8);
        check.due("look(1, 1)", 9, x.look(1, 1));
    }

    private static void fieldOfOtherClass() {
        check.part("3 if it is not of class a / 16 or one below");
        // FIELD 0 of class c, of an object of class g.
        boolean[][] due = {{true, true, true, false}, {false, true, true, false}, {false, false, true, false},
            {false, false, false, true}};
        for (int c = 0; c < 4; c++) {
            LazyCompiler x = withObjects();
            check.made(x, 2, LOAD, 0, GET, 16 * c, GIVE, 0);
            check.made(x, 3, LOAD, 0, LOAD, 1, PUT, 16 * c, INT, 8, GIVE, 0);
            for (int g = 0; g < 4; g++) {
                if (due[c][g]) check.gives(x, 3, g, 0, 70 + g, 8);
                else check.throwsOut(x, 3, g, 70 + g, 3, 3 * 32 + 2);
                if (due[c][g]) check.gives(x, 2, g, 0, 0, 70 + g);
                else check.throwsOut(x, 2, g, 0, 3, 2 * 32 + 1);
                check.due("look(" + g + ", 1)", due[c][g] ? 70 + g : 0, x.look(g, 1));
            }
        }
    }

    private static void is() {
        check.part("IS a: pushes 1 if it is of class a or one below, else 0");
        int[][] due = {{1, 1, 1, 0}, {0, 1, 1, 0}, {0, 0, 1, 0}, {0, 0, 0, 1}};
        for (int c = 0; c < 4; c++) {
            LazyCompiler x = withObjects();
            check.made(x, 2, LOAD, 0, IS, c, GIVE, 0);
            for (int g = 0; g < 4; g++) check.gives(x, 2, g, 0, 0, due[c][g]);
            check.due("set(0, -1)", true, x.set(0, -1));
            check.gives(x, 2, 0, 0, 0, 0);
        }
    }

    private static void fourDeep() {
        check.part("of class a or one below, as far below as there are classes");
        int[] order = {2, 0, 3, 1};
        LazyCompiler x = new LazyCompiler();
        for (int i = 0; i < 4; i++) check.due("cls", true, x.cls(order[i], i == 0 ? -1 : order[i - 1], 1, 0));
        for (int low = 0; low < 4; low++) {
            check.made(x, 6, NEW, order[low], GIVE, 0);
            check.gives(x, 6, 0, 0, 0, order[low]);
            for (int high = 0; high < 4; high++) {
                check.made(x, 2, LOAD, 0, IS, order[high], GIVE, 0);
                check.gives(x, 2, 3, 0, 0, high <= low ? 1 : 0);
                check.made(x, 2, LOAD, 0, GET, 16 * order[high] + high, GIVE, 0);
                if (high <= low) check.gives(x, 2, 3, 0, 0, 0);
                else check.throwsOut(x, 2, 3, 0, 3, 2 * 32 + 1);
            }
        }
        check.made(x, 3, LOAD, 1, GIVE, 0);
        check.made(x, 7, LOAD, 0, INT, 17, SEND, 1, GIVE, 0);
        check.throwsOut(x, 7, 3, 0, 4, 7 * 32 + 2);
        check.due("slot of the uppermost", true, x.slot(order[0], 1, 3));
        check.gives(x, 7, 3, 0, 0, 17);
    }

    /** Method 0 fills the room with ten frames of 12 words when it gets 9; the last one goes on at instruction 7. */
    private static void filling(LazyCompiler x, int... last) {
        int[] first = {LOAD, 0, ZERO, 7, LOAD, 0, INT, 1, SUB, 0, CALL, 0, GIVE, 0, INT, 0, DUP, 0, DUP, 0, POP, 0, POP, 0,
            POP, 0};
        int[] pairs = java.util.Arrays.copyOf(first, first.length + last.length);
        System.arraycopy(last, 0, pairs, first.length, last.length);
        check.made(x, 0, pairs);
        check.due("body(0, 1)", 12, x.body(0, 1));
    }

    private static void callWithoutBody() {
        check.part("CALL a: THROWS 4 if it has no body");
        LazyCompiler x = new LazyCompiler();
        filling(x, LOAD, 0, CALL, 1, GIVE, 0);
        check.throwsOut(x, 0, 0, 0, 4, 14);
        check.throwsOut(x, 0, 0, 9, 4, 14);
        check.made(x, 1, INT, 33, GIVE, 0);
        check.gives(x, 0, 0, 0, 0, 33);
        check.throwsOut(x, 0, 0, 9, 5, 14);
    }

    private static void callWithoutRoom() {
        check.part("CALL a: else 5 if there is no room for its frame");
        LazyCompiler x = new LazyCompiler();
        filling(x, LOAD, 0, GIVE, 0);
        check.gives(x, 0, 0, 0, 9, 0);
        check.throwsOut(x, 0, 0, 10, 5, 5);
        check.gives(x, 0, 0, 0, 9, 0);
    }

    private static void sendToNull() {
        check.part("SEND a: THROWS 2 if it is null");
        LazyCompiler x = withObjects();
        filling(x, FETCH, 0, INT, 3, SEND, 0, GIVE, 0);
        check.due("set(0, -1)", true, x.set(0, -1));
        check.throwsOut(x, 0, 0, 0, 2, 15);
        check.throwsOut(x, 0, 0, 9, 2, 15);
        check.due("slot(0, 0, 2)", true, x.slot(0, 0, 2));
        check.made(x, 2, LOAD, 1, GIVE, 0);
        check.throwsOut(x, 0, 0, 0, 2, 15);
        check.due("set(0, 1)", true, x.set(0, 1));
        check.gives(x, 0, 0, 0, 0, 3);
    }

    private static void sendWithoutMethod() {
        check.part("SEND a: 4 if there is no method, or it has no body");
        LazyCompiler x = withObjects();
        filling(x, FETCH, 1, INT, 3, SEND, 0, GIVE, 0);
        check.throwsOut(x, 0, 0, 0, 4, 15);
        check.throwsOut(x, 0, 0, 9, 4, 15);
        for (int m = 1; m < 8; m++) {
            if (m != 2) check.made(x, m, m >= 4 && m <= 6 ? NULL : INT, 3, GIVE, 0);
        }
        check.due("a body, but for no SLOT", true, x.slot(0, 1, 3));
        check.throwsOut(x, 0, 0, 0, 4, 15);
        check.due("a method above", true, x.slot(0, 0, 3));
        check.gives(x, 0, 0, 0, 0, 3);
        check.due("its own has no body", true, x.slot(1, 0, 2));
        check.throwsOut(x, 0, 0, 0, 4, 15);
        check.throwsOut(x, 0, 0, 9, 4, 15);
        check.made(x, 2, INT, 9, GIVE, 0);
        check.gives(x, 0, 0, 0, 0, 9);
    }

    private static void sendWithoutRoom() {
        check.part("SEND a: else 5 likewise");
        LazyCompiler x = withObjects();
        filling(x, FETCH, 1, INT, 3, SEND, 0, GIVE, 0);
        check.due("slot(0, 0, 2)", true, x.slot(0, 0, 2));
        check.made(x, 2, repeated(6, INT, 8, GIVE, 0));
        check.gives(x, 0, 0, 0, 7, 8);
        check.throwsOut(x, 0, 0, 8, 5, 15);
        check.made(x, 2, INT, 8, INT, 8, INT, 8, GIVE, 0);
        check.gives(x, 0, 0, 0, 8, 8);
        check.throwsOut(x, 0, 0, 9, 5, 15);
    }

    private static void give() {
        check.part("GIVE: pops what the method gives, and ends it");
        LazyCompiler x = new LazyCompiler();
        check.refused(x, 0, 0, GIVE, 0);
        for (int height = 1; height <= 6; height++) {
            check.made(x, 0, repeated(height, INT, height, GIVE, 0, INT, 9, GIVE, 0));
            check.gives(x, 0, 0, 0, 0, height);
            check.due("count(0)", height + 1, x.count(0));
        }
        // What is left on the stack is gone, as often as it may be: the next one begins with nothing.
        check.made(x, 1, repeated(5, INT, 2, LOAD, 0, GIVE, 0));
        check.made(x, 0, LOAD, 0, CALL, 1, CALL, 1, CALL, 1, INT, 4, CALL, 1, ADD, 0, GIVE, 0);
        for (int i = 0; i < 60; i++) check.due("run(0, ..)", OK, x.run(0, 0, 0, i));
        check.due("result()", 59 + 4, x.result());
    }

    private static void anyThrown() {
        check.part("THROW: pops an INT and THROWS that");
        LazyCompiler x = new LazyCompiler();
        check.made(x, 0, LOAD, 0, THROW, 0);
        for (int value : new int[] {LEAST, -1, 0, 1, 6, 7, MOST}) check.throwsOut(x, 0, 0, value, value, 1);
    }

    private static void whateverItIs() {
        check.part("DUP, POP: the top one, whatever it is");
        LazyCompiler x = new LazyCompiler();
        check.refused(x, 0, 0, DUP, 0, POP, 0, POP, 0, INT, 1, GIVE, 0);
        check.refused(x, 0, 0, POP, 0, INT, 1, GIVE, 0);
        check.made(x, 0, INT, 4, DUP, 0, ADD, 0, GIVE, 0);
        check.gives(x, 0, 0, 0, 0, 8);
        check.made(x, 0, NULL, 0, DUP, 0, SAME, 0, GIVE, 0);
        check.gives(x, 0, 0, 0, 0, 1);
        // At 5 the top one is an INT or null, so neither.
        check.made(x, 0, LOAD, 0, ZERO, 4, INT, 7, GOTO, 5, NULL, 0, DUP, 0, POP, 0, POP, 0, INT, 3, GIVE, 0);
        check.gives(x, 0, 0, 0, 0, 3);
        check.gives(x, 0, 0, 0, 1, 3);
        check.due("its map", 0, x.map(0, 6));
    }

    private static void globalNumbers() {
        check.part("GLOBAL a (0..3)");
        for (int a = 0; a < 4; a++) {
            LazyCompiler x = withObjects();
            check.made(x, 6, FETCH, a, GIVE, 0);
            check.gives(x, 6, 0, 0, 0, a);
            x = withObjects();
            check.made(x, 1, NULL, 0, KEEP, a, INT, 0, GIVE, 0);
            check.gives(x, 1, 0, 0, 0, 0);
            for (int g = 0; g < 4; g++) check.due("look(" + g + ", 0)", g == a ? NOTHING : g, x.look(g, 0));
        }
        for (int a : new int[] {-1, 4, LEAST, MOST}) {
            check.due("FETCH " + a, REFUSED, new LazyCompiler().code(FETCH, a));
            check.due("KEEP " + a, REFUSED, new LazyCompiler().code(KEEP, a));
        }
    }

    // ---- what THROWS ----

    private static void thrownInRange() {
        check.part("goes on at the CATCHER, if the instruction is in its range");
        // Instruction 3 throws.
        int[] pairs = {INT, 9, POP, 0, LOAD, 0, THROW, 0, INT, 100, ADD, 0, GIVE, 0};
        for (int from = 0; from < 7; from++) {
            for (int to = from; to <= 7; to++) {
                LazyCompiler x = new LazyCompiler();
                check.draft(x, pairs);
                check.due("catcher", true, x.catcher(from, to, 4));
                check.due("make(0)", OK, x.make(0));
                if (from <= 3 && 3 < to) check.gives(x, 0, 0, 0, 5, 105);
                else check.throwsOut(x, 0, 0, 5, 5, 3);
            }
        }
    }

    private static void thrownWhereCalled() {
        check.part("else the method ends, and it is thrown where it was called");
        // Instruction 3 calls.
        int[] pairs = {INT, 9, POP, 0, LOAD, 0, CALL, 1, GIVE, 0, INT, 100, ADD, 0, GIVE, 0};
        for (int from = 0; from < 8; from++) {
            for (int to = from; to <= 8; to++) {
                LazyCompiler x = new LazyCompiler();
                check.made(x, 1, LOAD, 0, THROW, 0);
                check.draft(x, pairs);
                check.due("catcher", true, x.catcher(from, to, 5));
                check.due("make(0)", OK, x.make(0));
                if (from <= 3 && 3 < to) check.gives(x, 0, 0, 0, 5, 105);
                else check.throwsOut(x, 0, 0, 5, 5, 32 + 1);
                check.due("count(0)", 4 + 2 + (from <= 3 && 3 < to ? 3 : 0), x.count(0));
            }
        }
        // Through a SEND, and an INITIALISER's NEW.
        LazyCompiler x = withObjects();
        check.made(x, 2, LOAD, 1, THROW, 0);
        check.due("slot(3, 1, 2)", true, x.slot(3, 1, 2));
        check.draft(x, FETCH, 3, LOAD, 0, SEND, 1, GIVE, 0, INT, 100, ADD, 0, GIVE, 0);
        check.due("catcher", true, x.catcher(2, 3, 4));
        check.due("make(0)", OK, x.make(0));
        check.gives(x, 0, 0, 0, 5, 105);
        x = withClass(0, 0);
        check.due("initialiser(0, 1)", true, x.initialiser(0, 1));
        check.made(x, 1, INT, 5, THROW, 0);
        check.draft(x, NEW, 0, IS, 0, GIVE, 0, INT, 100, ADD, 0, GIVE, 0);
        check.due("catcher", true, x.catcher(0, 1, 3));
        check.due("make(0)", OK, x.make(0));
        check.gives(x, 0, 0, 0, 0, 105);
    }

    private static void stackOfThrown() {
        check.part("the stack has just what is thrown, an INT");
        for (int below = 0; below < 5; below++) {
            // As many entries below the DIV's two as there may be; the goal has room for five more.
            LazyCompiler x = new LazyCompiler();
            x.wipe();
            for (int i = 0; i < below; i++) check.due("NULL", i + 1, x.code(NULL, 0));
            int[] rest = {INT, 7, LOAD, 0, DIV, 0, GIVE, 0, INT, 1, INT, 2, INT, 3, INT, 4, INT, 5, ADD, 0, ADD, 0, ADD, 0,
                ADD, 0, ADD, 0, GIVE, 0};
            for (int i = 0; i < rest.length; i += 2) check.due("code", below + i / 2 + 1, x.code(rest[i], rest[i + 1]));
            check.due("catcher", true, x.catcher(below + 2, below + 3, below + 4));
            check.due("make(0)", OK, x.make(0));
            check.due("map", 0, x.map(0, below + 4));
            check.gives(x, 0, 0, 0, 0, 1 + 15);
            check.gives(x, 0, 0, 0, 7, 1);
        }
        LazyCompiler x = new LazyCompiler();
        check.draft(x, INT, 7, LOAD, 0, DIV, 0, GIVE, 0, ADD, 0, GIVE, 0);
        check.due("catcher", true, x.catcher(2, 3, 4));
        check.due("nothing below it", REFUSED, x.make(0));
        check.due("place()", 4, x.place());
        check.draft(x, INT, 7, LOAD, 0, DIV, 0, GIVE, 0, KEEP, 0, INT, 1, GIVE, 0);
        check.due("catcher", true, x.catcher(2, 3, 4));
        check.due("not a REF", REFUSED, x.make(0));
        check.due("place()", 4, x.place());
        // Objects that were below it on the stack are of no use any more; one that is pushed then stays.
        x = withClass(1, 1);
        check.made(x, 1, LOAD, 0, ZERO, 9, NEW, 0, POP, 0, LOAD, 0, INT, 1, SUB, 0, STORE, 0, GOTO, 0, LOAD, 0, GIVE, 0);
        check.draft(x, NEW, 0, NEW, 0, NEW, 0, INT, 7, LOAD, 0, DIV, 0, GIVE, 0, POP, 0, NEW, 0, DUP, 0, INT, 66, PUT, 0,
            INT, 20, CALL, 1, POP, 0, GET, 0, GIVE, 0);
        check.due("catcher", true, x.catcher(5, 6, 7));
        check.due("make(0)", OK, x.make(0));
        check.gives(x, 0, 0, 0, 0, 66);
        check.due("COLLECTIONS", 1, x.count(1));
        check.due("stayed", 1, x.count(2));
    }

    private static void localsOfThrown() {
        check.part("it goes on at the CATCHER, with the LOCALS as they were");
        for (int l = 0; l < 6; l++) {
            for (int below = 0; below < 4; below++) {
                LazyCompiler x = new LazyCompiler();
                x.wipe();
                for (int k = 0; k < 6; k++) {
                    x.code(INT, 20 + k);
                    x.code(STORE, k);
                }
                for (int i = 0; i < below; i++) x.code(INT, 8);
                int[] end = {INT, 77, THROW, 0, LOAD, l, ADD, 0, GIVE, 0};
                for (int i = 0; i < end.length; i += 2) x.code(end[i], end[i + 1]);
                check.due("catcher", true, x.catcher(13 + below, 14 + below, 14 + below));
                check.due("make(0)", OK, x.make(0));
                check.gives(x, 0, 0, 0, 0, 77 + 20 + l);
            }
        }
    }
}
