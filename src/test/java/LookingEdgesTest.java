/** "LOOKING THROUGH": for each sentence the last draft without a fault and the first with one, on each side. */
public final class LookingEdgesTest implements HelpOps {
    private static final HelpCheck check = new HelpCheck();

    /** An instruction, what it pops (lowest first) and pushes: I, R, or A for whatever it is. */
    private record Row(int op, int a, String pops, String pushes) {
    }

    private static final Row[] ROWS = {
        new Row(INT, 5, "", "I"), new Row(NULL, 0, "", "R"), new Row(STORE, 5, "A", ""),
        new Row(ADD, 0, "II", "I"), new Row(SUB, 0, "II", "I"), new Row(DIV, 0, "II", "I"), new Row(LESS, 0, "II", "I"),
        new Row(SAME, 0, "RR", "I"), new Row(NEW, 1, "", "R"),
        new Row(GET, 16, "R", "I"), new Row(GET, 17, "R", "R"), new Row(GET, 18, "R", "I"),
        new Row(PUT, 16, "RI", ""), new Row(PUT, 17, "RR", ""), new Row(PUT, 18, "RI", ""), new Row(IS, 0, "R", "I"),
        new Row(CALL, 0, "I", "I"), new Row(CALL, 1, "I", "I"), new Row(CALL, 2, "RI", "I"), new Row(CALL, 3, "RI", "I"),
        new Row(CALL, 4, "RI", "R"), new Row(CALL, 5, "RI", "R"), new Row(CALL, 6, "", "R"), new Row(CALL, 7, "RR", "I"),
        new Row(SEND, 0, "RI", "I"), new Row(SEND, 1, "RI", "I"), new Row(SEND, 2, "RI", "R"), new Row(SEND, 3, "RI", "R"),
        new Row(THROW, 0, "I", ""), new Row(DUP, 0, "A", "AA"), new Row(POP, 0, "A", ""),
        new Row(FETCH, 3, "", "R"), new Row(KEEP, 3, "R", ""), new Row(GIVE, 0, "I", ""),
        new Row(LOAD, 0, "", "I"), new Row(GOTO, -1, "", ""), new Row(ZERO, -1, "I", ""), new Row(NONE, -1, "R", ""),
    };

    public static void main(String[] args) {
        goesToMissing();
        missingClass();
        missingField();
        missingNotReached();
        catcherNotThere();
        orderOfFaults();
        leastPlace();
        firstWithEmptyStack();
        lessThanPopped();
        noneBehind();
        severalHeights();
        notReached();
        goesOnForEachHeight();
        catcherReached();
        kindsPopped();
        loadKinds();
        waysMeet();
        threeWaysMeet();
        waysBack();
        faultPushes();
        localsAtCatcher();
        check.end();
    }

    /** Class 0 has an int and a reference, class 1 below it one more int. */
    private static LazyCompiler classes() {
        LazyCompiler x = new LazyCompiler();
        check.due("cls(0, ..)", true, x.cls(0, -1, 1, 1));
        check.due("cls(1, ..)", true, x.cls(1, 0, 1, 0));
        return x;
    }

    private static HelpDraft draft(int... pairs) {
        return new HelpDraft().add(pairs);
    }

    /** An instruction that jumps goes to the one behind it. */
    private static HelpDraft addRow(HelpDraft d, Row row) {
        return d.add(row.op, row.a < 0 ? d.size() + 1 : row.a);
    }

    // ---- (a) ----

    private static void goesToMissing() {
        check.part("(a) an instruction that goes to one that is not there");
        for (int length : new int[] {1, 2, 5, 23, 24}) {
            for (int goal : new int[] {0, length - 1, length, 23}) {
                if (goal > 23) continue;
                int due = goal < length ? -1 : length - 1;
                draft().times(length - 1, GOTO, 0).add(GOTO, goal).due(check, classes(), 0, due);
                if (length < 3) continue;
                int at = length - 1;
                draft(INT, 1, GIVE, 0).times(at - 2, GOTO, 0).add(ZERO, goal).due(check, classes(), 0, due);
                draft(INT, 1, GIVE, 0).times(at - 2, GOTO, 0).add(NONE, goal).due(check, classes(), 0, due);
            }
        }
    }

    private static void missingClass() {
        check.part("(a) a class that is not there");
        for (int op : new int[] {NEW, IS}) {
            for (int c = 0; c < 4; c++) {
                LazyCompiler x = new LazyCompiler();
                HelpDraft d = draft(NULL, 0, op, c, GOTO, 2);
                for (int k = 0; k < 4; k++) {
                    if (k != c) check.due("cls(" + k + ", ..)", true, x.cls(k, -1, 0, 0));
                }
                d.due(check, x, 0, 1);
                check.due("cls(" + c + ", ..)", true, x.cls(c, -1, 0, 0));
                d.due(check, x, 0, -1);
            }
        }
    }

    private static void missingField() {
        check.part("(a) a FIELD that is not there");
        LazyCompiler x = new LazyCompiler();
        draft(NULL, 0, GET, 0, GOTO, 2).due(check, x, 0, 1);
        check.due("cls(0, ..)", true, x.cls(0, -1, 0, 0));
        draft(NULL, 0, GET, 0, GOTO, 2).due(check, x, 0, 1);
        draft(NULL, 0, INT, 0, PUT, 0, GOTO, 3).due(check, x, 0, 2);
        check.due("cls(1, ..)", true, x.cls(1, -1, 2, 2));
        draft(NULL, 0, GET, 16 + 3, GOTO, 2).due(check, x, 0, -1);
        draft(NULL, 0, GET, 16 + 4, GOTO, 2).due(check, x, 0, 1);
        draft(NULL, 0, GET, 16 + 15, GOTO, 2).due(check, x, 0, 1);
        draft(NULL, 0, NULL, 0, PUT, 16 + 3, GOTO, 3).due(check, x, 0, -1);
        draft(NULL, 0, NULL, 0, PUT, 16 + 4, GOTO, 3).due(check, x, 0, 2);
        draft(NULL, 0, NULL, 0, PUT, 32, GOTO, 3).due(check, x, 0, 2);
        check.due("cls(2, ..)", true, x.cls(2, 1, 2, 2));
        check.due("cls(3, ..)", true, x.cls(3, 2, 2, 2));
        draft(NULL, 0, GET, 48 + 11, GOTO, 2).due(check, x, 0, -1);
        draft(NULL, 0, GET, 48 + 12, GOTO, 2).due(check, x, 0, 1);
        draft(NULL, 0, GET, 63, GOTO, 2).due(check, x, 0, 1);
    }

    private static void missingNotReached() {
        check.part("(a) also where it is never reached");
        LazyCompiler x = classes();
        draft(INT, 1, GIVE, 0, NEW, 1, IS, 1, GET, 18, PUT, 18, GOTO, 6, ZERO, 7, NONE, 7).due(check, x, 0, -1);
        draft(INT, 1, GIVE, 0, NEW, 2).due(check, x, 0, 2);
        draft(INT, 1, GIVE, 0, IS, 2).due(check, x, 0, 2);
        draft(INT, 1, GIVE, 0, GET, 19).due(check, x, 0, 2);
        draft(INT, 1, GIVE, 0, PUT, 19).due(check, x, 0, 2);
        draft(INT, 1, GIVE, 0, GOTO, 3).due(check, x, 0, 2);
        draft(INT, 1, GIVE, 0, ZERO, 3).due(check, x, 0, 2);
        draft(INT, 1, GIVE, 0, NONE, 3).due(check, x, 0, 2);
    }

    private static void catcherNotThere() {
        check.part("(a) a CATCHER with its range or goal not all there");
        for (int length : new int[] {2, 3, 23, 24}) {
            HelpDraft d = draft(INT, 1).times(length - 1, GIVE, 0);
            int[] numbers = {0, 1, length - 1, length, length + 1, 24};
            for (int from : numbers) {
                for (int to : numbers) {
                    if (from >= to || to > 24) continue;
                    d.catcher(from, to, 1).due(check, classes(), 0, to <= length ? -1 : 24);
                }
            }
            d.catcher(1, 2, length - 1).due(check, classes(), 0, -1);
            if (length < 24) d.catcher(1, 2, length).due(check, classes(), 0, 24);
            d.catcher(1, 2, 24).due(check, classes(), 0, 24);
            d.catcher(0, 1, 24).due(check, classes(), 0, 24);
        }
        LazyCompiler x = classes();
        check.draft(x, INT, 1, GIVE, 0);
        check.due("none, so nothing of it is missing", true, x.catcher(24, 24, 24));
        check.due("make(0)", LazyCompiler.OK, x.make(0));
    }

    // ---- order and places ----

    private static void orderOfFaults() {
        check.part("faults are, in this order: (a), (b), (c)");
        LazyCompiler x = classes();
        draft(LOAD, 5, ADD, 0, GOTO, 3).due(check, x, 0, 2);
        draft(LOAD, 5, ADD, 0, GOTO, 2).due(check, x, 0, 1);
        draft(LOAD, 5, POP, 0, GOTO, 2).due(check, x, 0, 0);
        draft(LOAD, 5, ADD, 0, GOTO, 2).catcher(0, 1, 3).due(check, x, 0, 24);
        draft(LOAD, 0, POP, 0, GOTO, 2).due(check, x, 0, -1);
    }

    private static void leastPlace() {
        check.part("the least instruction with a fault of the first kind (for the CATCHER 24)");
        LazyCompiler x = classes();
        draft(GOTO, 3, IS, 2, IS, 3).due(check, x, 0, 0);
        draft(GOTO, 2, IS, 2, IS, 3).due(check, x, 0, 1);
        draft(GOTO, 2, IS, 1, IS, 3).due(check, x, 0, 2);
        draft(GOTO, 0, IS, 1, IS, 3).catcher(0, 4, 4).due(check, x, 0, 2);
        draft(GOTO, 0, IS, 1, IS, 1).catcher(0, 4, 4).due(check, x, 0, 24);
        draft().times(23, GOTO, 0).add(GOTO, 23).due(check, x, 0, -1);
        draft().times(23, GOTO, 0).add(NEW, 3).due(check, x, 0, 23);
        draft(GOTO, 4, POP, 0, GOTO, 2, POP, 0, LOAD, 0, ZERO, 1, GOTO, 3).due(check, x, 0, 1);
        draft(GOTO, 4, GOTO, 1, GOTO, 2, POP, 0, LOAD, 0, ZERO, 1, GOTO, 3).due(check, x, 0, 3);
        draft(GOTO, 4, LOAD, 3, GOTO, 2, LOAD, 4, LOAD, 0, ZERO, 1, POP, 0, GOTO, 7).due(check, x, 0, 6);
        draft(GOTO, 4, LOAD, 3, GOTO, 2, LOAD, 4, LOAD, 0, ZERO, 1, LOAD, 5, GOTO, 7).due(check, x, 0, 1);
        draft(GOTO, 4, LOAD, 0, GOTO, 2, LOAD, 4, LOAD, 0, ZERO, 1, LOAD, 5, GOTO, 7).due(check, x, 0, 6);
    }

    // ---- (b) ----

    private static void firstWithEmptyStack() {
        check.part("(b) from the first one on, with an empty stack");
        LazyCompiler x = classes();
        for (Row row : ROWS) {
            boolean fits = row.pops.isEmpty();
            addRow(draft(), row).add(GOTO, 1).due(check, x, 0, fits ? -1 : 0);
            if (fits) check.due("map(0, 0)", 0, x.map(0, 0));
        }
    }

    /** The right kinds on top, and below them as many INTs as the height needs. */
    private static HelpDraft ofHeight(int height, String kinds) {
        HelpDraft d = draft();
        for (int k = 0; k < height; k++) {
            int i = kinds.length() - height + k;
            d.push(i >= 0 && kinds.charAt(i) == 'R' ? 'R' : 'I');
        }
        return d;
    }

    private static void lessThanPopped() {
        check.part("(b) a height that is less than what it pops, or at which it would push beyond six");
        for (Row row : ROWS) {
            for (int height = 0; height <= 6; height++) {
                HelpDraft d = addRow(ofHeight(height, row.pops), row).add(GOTO, height + 1);
                int behind = height - row.pops.length() + row.pushes.length();
                boolean fits = height >= row.pops.length() && behind <= 6;
                LazyCompiler x = classes();
                d.due(check, x, 0, fits ? -1 : height);
                if (fits) check.due("body(0, 1)", 9 + Math.max(height, behind), x.body(0, 1));
            }
        }
    }

    private static void noneBehind() {
        check.part("(b) behind which there is none where it goes on");
        for (Row row : ROWS) {
            int height = row.pops.length();
            boolean ends = row.op == GOTO || row.op == GIVE || row.op == THROW;
            HelpDraft d = ofHeight(height, row.pops).add(row.op, row.a < 0 ? 0 : row.a);
            d.due(check, classes(), 0, ends ? -1 : height);
            ofHeight(height, row.pops).add(row.op, row.a < 0 ? 0 : row.a, GOTO, height + 1).due(check, classes(), 0, -1);
        }
        for (int last : new int[] {POP, GIVE}) {
            HelpDraft full = draft();
            for (int i = 0; i < 11; i++) full.add(INT, 1, POP, 0);
            full.add(INT, 1, last, 0).due(check, classes(), 0, last == GIVE ? -1 : 23);
        }
        // It does not go on behind the last one, but to where it goes to it does.
        draft(GOTO, 4, POP, 0, GOTO, 2, GOTO, 3, LOAD, 0, ZERO, 1).due(check, classes(), 0, 1);
        draft(GOTO, 4, INT, 0, GOTO, 2, GOTO, 3, LOAD, 0, ZERO, 1).due(check, classes(), 0, 5);
    }

    private static void severalHeights() {
        check.part("(b) one that can be reached with several heights of the stack");
        for (int first = 0; first < 6; first++) {
            for (int second = 0; second < 6; second++) {
                int meeting = 3 + first + second;
                HelpDraft d = draft(LOAD, 0, ZERO, 3 + first).times(first, INT, 1).add(GOTO, meeting);
                d.times(second, INT, 1).add(GOTO, meeting).due(check, classes(), 0, first == second ? -1 : meeting);
            }
        }
        draft(INT, 1, GOTO, 0).due(check, classes(), 0, 0);
        draft(INT, 1, POP, 0, GOTO, 0).due(check, classes(), 0, -1);
        draft(GOTO, 1, INT, 1, GOTO, 1).due(check, classes(), 0, 1);
    }

    private static void notReached() {
        check.part("(b) and (c) one that can be reached");
        LazyCompiler x = classes();
        for (Row row : ROWS) {
            addRow(draft(INT, 1, GIVE, 0), row).add(GOTO, 3).due(check, x, 0, -1);
            check.due("map(0, 2)", -1, x.map(0, 2));
            check.due("body(0, 1)", 10, x.body(0, 1));
        }
        draft(INT, 1, GIVE, 0, INT, 1).due(check, x, 0, -1);
        draft(INT, 1, THROW, 0, LOAD, 5).due(check, x, 0, -1);
        draft(GOTO, 2, ADD, 0, GOTO, 2).due(check, x, 0, -1);
        draft(INT, 1, GIVE, 0, ADD, 0, LOAD, 4, GIVE, 0).catcher(2, 4, 0).due(check, x, 0, -1);
        // One that is not reached is no way to the one behind it: all entries there are what they were.
        for (Row row : ROWS) {
            for (int op : new int[] {NULL, INT}) {
                HelpDraft d = addRow(draft().times(6, op, 1).add(GOTO, 8), row);
                d.add(op == NULL ? SAME : ADD, 0, GOTO, 9).due(check, classes(), 0, -1);
            }
        }
    }

    private static void goesOnForEachHeight() {
        check.part("(b) goes on for each height with which it is reached and that it can be done with");
        LazyCompiler x = classes();
        // 3 is reached with 0 and 1 and pops one: 1 is reached with 0 alone.
        draft(GOTO, 5, GOTO, 1, GOTO, 2, POP, 0, GOTO, 1, LOAD, 0, ZERO, 3, INT, 1, GOTO, 3).due(check, x, 0, 3);
        draft(GOTO, 5, POP, 0, GOTO, 2, POP, 0, GOTO, 1, LOAD, 0, ZERO, 3, INT, 1, GOTO, 3).due(check, x, 0, 1);
        // 3 is reached with 1 and 2: 1 is reached with both less one, which is several.
        draft(GOTO, 5, GOTO, 1, GOTO, 2, POP, 0, GOTO, 1, INT, 1, LOAD, 0, ZERO, 3, INT, 1, GOTO, 3).due(check, x, 0, 1);
        // 3 is reached with 5 and 6 and pushes one: 1 is reached with 6 alone, and can be done with it.
        HelpDraft high = draft(GOTO, 5, POP, 0, GOTO, 2, INT, 1, GOTO, 1).times(5, INT, 1);
        high.add(LOAD, 0, ZERO, 3, INT, 1, GOTO, 3).due(check, x, 0, 3);
        high = draft(GOTO, 5, INT, 0, GOTO, 2, INT, 1, GOTO, 1).times(5, INT, 1);
        high.add(LOAD, 0, ZERO, 3, INT, 1, GOTO, 3).due(check, x, 0, 1);
        // 3 can't be done at all: nothing behind it is reached.
        draft(GOTO, 3, POP, 0, GOTO, 1, POP, 0, GOTO, 1).due(check, x, 0, 3);
        draft(GOTO, 3, ADD, 0, GOTO, 1, NONE, 1, GOTO, 4).due(check, x, 0, 3);
        // Six heights at one place, 0 to 5: 1 pops two, so 2 is reached with 0 to 3, and 3 with 0 and 1.
        draft(GOTO, 5, ADD, 0, ADD, 0, GOTO, 3, GOTO, 4, INT, 1, LOAD, 0, ZERO, 1, GOTO, 5).due(check, x, 0, 1);
    }

    private static void catcherReached() {
        check.part("(b) from each one that is reached in the range of the CATCHER that is reached with height 1");
        LazyCompiler x = classes();
        // 1 throws what is caught away; it must be reached with 1.
        draft(GOTO, 3, POP, 0, GOTO, 2, INT, 1, GIVE, 0).catcher(3, 4, 1).due(check, x, 0, -1);
        check.due("map(0, 1)", 0, x.map(0, 1));
        draft(GOTO, 3, POP, 0, GOTO, 2, INT, 1, GIVE, 0).catcher(4, 5, 1).due(check, x, 0, -1);
        check.due("map(0, 1)", 0, x.map(0, 1));
        draft(GOTO, 3, POP, 0, GOTO, 2, INT, 1, GIVE, 0, INT, 1).catcher(5, 6, 1).due(check, x, 0, -1);
        check.due("a range that is not reached", -1, x.map(0, 1));
        draft(GOTO, 3, ADD, 0, GOTO, 2, INT, 1, GIVE, 0).catcher(0, 1, 1).due(check, x, 0, 1);
        draft(GOTO, 3, GOTO, 1, GOTO, 2, POP, 0, GIVE, 0).catcher(3, 4, 1).due(check, x, 0, 3);
        draft(GOTO, 3, ADD, 0, GOTO, 2, POP, 0, GIVE, 0).catcher(3, 4, 1).due(check, x, 0, 1);
        // Reached with 1 already, or with another height.
        draft(INT, 1, POP, 0, GOTO, 2).catcher(0, 1, 1).due(check, x, 0, -1);
        draft(INT, 1, POP, 0, GOTO, 2).catcher(0, 1, 0).due(check, x, 0, 0);
        draft(INT, 1, POP, 0, GOTO, 2).catcher(0, 1, 2).due(check, x, 0, 2);
        draft(INT, 1, INT, 1, ADD, 0, GIVE, 0).catcher(0, 1, 2).due(check, x, 0, 2);
        // The goal is in its own range, and reached from itself alone a second time.
        draft(GOTO, 1, INT, 1, THROW, 0).catcher(1, 3, 2).due(check, x, 0, -1);
        draft(INT, 1, GIVE, 0, THROW, 0).catcher(2, 3, 2).due(check, x, 0, -1);
        check.due("never reached", -1, x.map(0, 2));
    }

    // ---- (c) ----

    private static boolean isNeeded(char needed, char kind) {
        return needed == 'A' || needed == kind;
    }

    /** All texts of the letters I, R and T of a length up to 2. */
    private static String[] kindsOf(int length) {
        if (length == 0) return new String[] {""};
        if (length == 1) return new String[] {"I", "R", "T"};
        return new String[] {"II", "IR", "IT", "RI", "RR", "RT", "TI", "TR", "TT"};
    }

    private static void kindsPopped() {
        check.part("(c) what it pops is not of the kind it needs");
        for (Row row : ROWS) {
            if (row.op == LOAD) continue;
            for (String kinds : kindsOf(row.pops.length())) {
                HelpDraft d = draft();
                boolean due = true;
                for (int i = 0; i < kinds.length(); i++) {
                    d.push(kinds.charAt(i));
                    due &= isNeeded(row.pops.charAt(i), kinds.charAt(i));
                }
                int at = d.size();
                addRow(d, row).add(GOTO, at + 1).due(check, classes(), 0, due ? -1 : at);
            }
        }
        draft().push('R').add(GIVE, 0).due(check, classes(), 6, -1);
        draft().push('I').add(GIVE, 0).due(check, classes(), 6, 1);
        draft().push('T').add(GIVE, 0).due(check, classes(), 6, 5);
    }

    private static void loadKinds() {
        check.part("(c) the LOCAL it loads is not of the kind it needs (LOAD: INT or REF)");
        for (int l = 0; l < 6; l++) {
            for (char kind : new char[] {'I', 'R', 'T'}) {
                HelpDraft d = draft().push(kind).add(STORE, l);
                int at = d.size();
                d.add(LOAD, l, GOTO, at + 1).due(check, classes(), 7, kind == 'T' ? at : -1);
            }
            draft(LOAD, l, GOTO, 1).due(check, classes(), 7, l < 2 ? -1 : 0);
        }
    }

    /** Needs an INT (THROW) or a REF (KEEP) on top. */
    private static HelpDraft need(HelpDraft d, char kind) {
        int at = d.size();
        return kind == 'I' ? d.add(THROW, 0) : d.add(KEEP, 0, GOTO, at + 1);
    }

    private static char met(String kinds) {
        char first = kinds.charAt(0);
        for (char kind : kinds.toCharArray()) {
            if (kind != first) return 'T';
        }
        return first;
    }

    private static void waysMeet() {
        check.part("(c) where ways meet an entry is INT or REF if it is that on all of them, else TOP");
        for (String kinds : kindsOf(2)) {
            for (char needed : new char[] {'I', 'R'}) {
                entryMeets(kinds, needed);
                localMeets(kinds, needed);
            }
        }
    }

    private static void entryMeets(String kinds, char needed) {
        int second = 2 + draft().push(kinds.charAt(0)).size() + 1;
        int meeting = second + draft().push(kinds.charAt(1)).size();
        HelpDraft d = draft(LOAD, 0, ZERO, second).push(kinds.charAt(0)).add(GOTO, meeting).push(kinds.charAt(1));
        need(d, needed).due(check, classes(), 0, met(kinds) == needed ? -1 : meeting);
    }

    private static void localMeets(String kinds, char needed) {
        int second = 2 + draft().push(kinds.charAt(0)).size() + 2;
        HelpDraft d = draft(LOAD, 0, ZERO, second).push(kinds.charAt(0)).add(STORE, 4);
        int meeting = second + draft().push(kinds.charAt(1)).size() + 1;
        d.add(GOTO, meeting).push(kinds.charAt(1)).add(STORE, 4, LOAD, 4);
        char kind = met(kinds);
        int due = kind == 'T' ? meeting : kind == needed ? -1 : meeting + 1;
        need(d, needed).due(check, classes(), 0, due);
    }

    private static void threeWaysMeet() {
        check.part("(c) where ways meet, on all of them");
        for (String kinds : new String[] {"III", "RRR", "RII", "IRI", "IIR", "IRR", "RIR", "RRI"}) {
            for (char needed : new char[] {'I', 'R'}) {
                HelpDraft d = draft(LOAD, 0, ZERO, 6, LOAD, 0, ZERO, 8);
                d.push(kinds.charAt(0)).add(GOTO, 9).push(kinds.charAt(1)).add(GOTO, 9).push(kinds.charAt(2));
                need(d, needed).due(check, classes(), 0, met(kinds) == needed ? -1 : 9);
            }
        }
        // A way that leads back: LOCAL 0 is no INT any more where it is loaded first.
        draft(LOAD, 0, POP, 0, INT, 1, STORE, 0, GOTO, 0).due(check, classes(), 0, -1);
        draft(LOAD, 0, POP, 0, NULL, 0, STORE, 0, GOTO, 0).due(check, classes(), 0, 0);
        draft(LOAD, 0, POP, 0, NULL, 0, STORE, 0, GOTO, 4).due(check, classes(), 0, -1);
    }

    private static void waysBack() {
        check.part("(b) and (c) by ways that lead back, as often as they do");
        // 4 is reached from 7, goes back to 1 and on to 5; what 1 leads to is looked through still.
        draft(GOTO, 6, INT, 1, ADD, 0, GOTO, 3, ZERO, 1, GOTO, 5, LOAD, 0, GOTO, 4).due(check, classes(), 0, 2);
        draft(GOTO, 6, INT, 1, LOAD, 5, GOTO, 3, ZERO, 1, GOTO, 5, LOAD, 0, GOTO, 4).due(check, classes(), 0, 2);
        draft(GOTO, 6, INT, 1, LOAD, 0, GOTO, 3, ZERO, 1, GOTO, 5, LOAD, 0, GOTO, 4).due(check, classes(), 0, -1);
        // The same by the CATCHER, which is reached from 4 when that goes on for the first time.
        draft(GOTO, 6, INT, 1, ADD, 0, ADD, 0, INT, 1, GOTO, 5, INT, 1, GOTO, 4).catcher(4, 5, 1).due(check, classes(), 0, 3);
        draft(GOTO, 6, POP, 0, LOAD, 5, GOTO, 3, INT, 1, GOTO, 5, INT, 1, GOTO, 4).catcher(4, 5, 1).due(check, classes(), 0, 2);
        draft(GOTO, 6, POP, 0, LOAD, 0, GOTO, 3, INT, 1, GOTO, 5, INT, 1, GOTO, 4).catcher(4, 5, 1).due(check, classes(), 0, -1);
        // A ladder: each step goes back to the one before it, so each is reached only after all that are above it.
        for (char kind : new char[] {'I', 'R', 'T'}) {
            for (int l = 1; l < 6; l++) {
                HelpDraft d = draft(GOTO, 20, kind == 'R' ? NULL : INT, 1, GOTO, 4, GOTO, 3, LOAD, l, GOTO, 5);
                for (int at = 6; at < 20; at++) d.add(GOTO, at == 6 ? 1 : at - 1);
                if (kind == 'I') d.add(INT, 1, STORE, l, GOTO, 19);
                else if (kind == 'R') d.add(NULL, 0, STORE, l, GOTO, 19);
                else d.add(INT, 1, POP, 0, GOTO, 19);
                d.due(check, classes(), 0, kind == 'T' ? 4 : -1);
            }
        }
        // Two ways come to 15 and go back step by step to 5, the second one three steps behind the first.
        for (String kinds : kindsOf(2)) {
            if (kinds.contains("T")) continue;
            HelpDraft d = draft(LOAD, 0, ZERO, 16).push(kinds.charAt(0)).add(STORE, 3, GOTO, 15, LOAD, 3, GOTO, 6, GOTO, 15,
                GOTO, 7, GOTO, 8, GOTO, 5, GOTO, 10, GOTO, 11, GOTO, 12, GOTO, 13, GOTO, 14);
            d.push(kinds.charAt(1)).add(STORE, 3, GOTO, 9).due(check, classes(), 0, met(kinds) == 'T' ? 5 : -1);
        }
        // LOCAL 2 is a REF at first, LOCAL 3 an INT; one way back changes one of them alone, far from where it is loaded.
        for (int changed = 2; changed < 4; changed++) {
            for (int loaded = 2; loaded < 4; loaded++) {
                HelpDraft d = draft(NULL, 0, STORE, 2, INT, 1, STORE, 3, GOTO, 14, LOAD, loaded, POP, 0, LOAD, 0, ZERO, 11,
                    GOTO, 14, GOTO, 10, changed == 2 ? INT : NULL, 1, STORE, changed, GOTO, 14);
                d.add(GOTO, 15, GOTO, 16, GOTO, 17, GOTO, 5).due(check, classes(), 0, changed == loaded ? 5 : -1);
            }
        }
    }

    private static void faultPushes() {
        check.part("(c) a fault changes nothing of what is pushed");
        for (Row row : ROWS) {
            if (row.pushes.length() != 1 || row.pops.isEmpty()) continue;
            for (String kinds : kindsOf(row.pops.length())) {
                for (char needed : new char[] {'I', 'R'}) {
                    HelpDraft d = draft(GOTO, 4, needed == 'I' ? ZERO : NONE, 2, GOTO, 2, GOTO, 3);
                    boolean fault = false;
                    for (int i = 0; i < kinds.length(); i++) {
                        d.push(kinds.charAt(i));
                        fault |= !isNeeded(row.pops.charAt(i), kinds.charAt(i));
                    }
                    int at = d.size();
                    addRow(d, row).add(GOTO, 1);
                    int due = row.pushes.charAt(0) != needed ? 1 : fault ? at : -1;
                    d.due(check, classes(), 0, due);
                }
            }
        }
        // LOAD pushes the LOCAL, which is neither.
        draft(GOTO, 3, ZERO, 2, GOTO, 2, LOAD, 5, GOTO, 1).due(check, classes(), 0, 1);
        draft(GOTO, 3, NONE, 2, GOTO, 2, LOAD, 5, GOTO, 1).due(check, classes(), 0, 1);
        draft(GOTO, 3, POP, 0, GOTO, 2, LOAD, 5, GOTO, 1).due(check, classes(), 0, 3);
    }

    private static void localsAtCatcher() {
        check.part("(c) LOCALS come to the CATCHER as they are before each instruction reached in its range");
        // LOCAL 3 is TOP before 0 and 1, INT before 2 and 3, REF before 4 and behind; 6 is not reached.
        int[] pairs = {INT, 1, STORE, 3, NULL, 0, STORE, 3, INT, 1, GIVE, 0, INT, 1};
        char[] before = {'T', 'T', 'I', 'I', 'R', 'R', '-'};
        for (int from = 0; from < 7; from++) {
            for (int to = from + 1; to <= 7; to++) {
                StringBuilder kinds = new StringBuilder();
                for (int at = from; at < to; at++) {
                    if (before[at] != '-') kinds.append(before[at]);
                }
                for (char needed : new char[] {'I', 'R'}) {
                    HelpDraft d = draft(pairs).add(POP, 0, LOAD, 3);
                    need(d, needed).catcher(from, to, 7);
                    char kind = kinds.length() == 0 ? needed : met(kinds.toString());
                    d.due(check, classes(), 0, kind == 'T' ? 8 : kind == needed ? -1 : 9);
                }
            }
        }
        // The goal in its own range: what it stores comes back to it.
        draft(INT, 1, GOTO, 2, POP, 0, LOAD, 0, STORE, 0, INT, 1, THROW, 0).catcher(2, 7, 2).due(check, classes(), 0, -1);
        draft(INT, 1, GOTO, 2, POP, 0, NULL, 0, STORE, 0, INT, 1, THROW, 0).catcher(2, 5, 2).due(check, classes(), 0, -1);
        draft(INT, 1, GOTO, 2, POP, 0, LOAD, 0, POP, 0, NULL, 0, STORE, 0, INT, 1, THROW, 0).catcher(2, 6, 2)
            .due(check, classes(), 0, -1);
        draft(INT, 1, GOTO, 2, POP, 0, LOAD, 0, POP, 0, NULL, 0, STORE, 0, INT, 1, THROW, 0).catcher(2, 8, 2)
            .due(check, classes(), 0, 3);
    }
}
