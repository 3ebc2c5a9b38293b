/**
 * A machine for objects: methods are looked through when they are made, and turned into code when they are called for
 * the first time; objects are moved together when there is no room. Its promises stand in ../shared/DOC.md.
 * Looking through tells the height of the stack at each instruction, so code has no stack: it works on numbered cells of
 * a frame, first the LOCALS, then the entries of the stack. What runs is code alone, never an instruction.
 */
public final class LazyCompiler {
    public static final int OK = 0, THROWN = 1, LONG = 2, REFUSED = -1;
    public static final long NOTHING = 10000000000L;

    private static final int CLASSES = 4, SLOTS = 4, METHODS = 8, GLOBALS = 4, OWN_FIELDS = 2;
    private static final int LENGTH = 24;
    private static final int ABSENT = -1, NOT_THERE = -2;

    private static final int INT = 0, NULL = 1, LOAD = 2, STORE = 3, ADD = 4, SUB = 5, DIV = 6, LESS = 7;
    private static final int GOTO = 8, ZERO = 9, NONE = 10, SAME = 11, NEW = 12, GET = 13, PUT = 14, IS = 15;
    private static final int CALL = 16, SEND = 17, GIVE = 18, THROW = 19, DUP = 20, POP = 21, FETCH = 22, KEEP = 23;
    private static final int OPS = 24;

    // Operations that only code has, beside those that bear the number of their instruction. 0, INT, is never code.
    private static final int NO_CODE = 0, FILL = 24, COPY = 25, SKIP = 26, BRANCH = 27, LINKED = 28;

    private static final int BY_ZERO = 1, NO_OBJECT = 2, OTHER_CLASS = 3, NO_METHOD = 4, NO_FRAME = 5, NO_WORDS = 6;

    // The draft is held as one more method, so that making it a body is a copy between rows.
    private static final int DRAFT = METHODS, ROWS = METHODS + 1;
    private static final int DRAFT_START = DRAFT * LENGTH, ROW_CELLS = ROWS * LENGTH, BODY_CELLS = METHODS * LENGTH;
    private static final int SLOT_CELLS = CLASSES * SLOTS;
    private static final int CATCHER_PLACE = 24;

    private static final int LOCALS = 6, STACK = 6, ENTRIES = LOCALS + STACK;
    private static final int LOCAL_BITS = (1 << LOCALS) - 1, ALL_BITS = (1 << ENTRIES) - 1;
    private static final int KIND_NONE = 0, KIND_INT = 1, KIND_REF = 2;
    // Each pass but the last changes one of at most 24 * 24 bits.
    private static final int PASSES = 1000;

    private static final int FRAME_BASE = 9, FRAME_ROOM = 120;
    // 120 words hold 13 frames of 9 words; in one more is written what a method takes that finds no room.
    private static final int FRAMES = 14, FRAME_CELLS = FRAMES * ENTRIES;
    private static final int WORDS = 48, HEAP_CELLS = WORDS + 1;
    private static final int FIELD_STEP = 16;
    private static final int MOST_DONE = 1000;
    private static final int GIVEN = 3;
    private static final int ORIGIN_STEP = 32;

    // NOT_THERE for classes that are not there.
    private final int[] superOf = new int[CLASSES];
    private final int[] fieldCount = new int[CLASSES];
    private final int[] refFields = new int[CLASSES];
    private final int[] ownMethods = new int[SLOT_CELLS];
    private final int[] initialisers = new int[CLASSES];
    private final boolean[] ready = new boolean[CLASSES];

    private final int[] ops = new int[ROW_CELLS];
    private final int[] operands = new int[ROW_CELLS];
    private final int[] lengths = new int[ROWS];
    private final int[] catchFrom = new int[ROWS];
    private final int[] catchTo = new int[ROWS];
    private final int[] catchGoal = new int[ROWS];
    private final int[] refMaps = new int[BODY_CELLS];
    private final int[] bodyHeights = new int[BODY_CELLS];
    private final int[] frameWords = new int[METHODS];

    // Code stands at the numbers of its instructions, so that places, maps and the CATCHER hold for both.
    private final int[] codeOps = new int[BODY_CELLS];
    private final int[] codeCells = new int[BODY_CELLS];
    private final int[] codeArgs = new int[BODY_CELLS];

    // Bit h: the instruction of the draft is reached with height h.
    private final int[] heights = new int[LENGTH];
    // Bit l for LOCALS, bit 6 + k for stack entries that are INT or REF on all ways seen so far.
    private final int[] intKinds = new int[LENGTH];
    private final int[] refKinds = new int[LENGTH];
    private int faultPlace = ABSENT;

    // A reference is where an object's first word is, which holds its class; word 0 is never one, so 0 is null.
    private final int[] heap = new int[HEAP_CELLS];
    private final int[] newPlaces = new int[HEAP_CELLS];
    private int heapEnd = 1;
    private final int[] globals = new int[GLOBALS];

    private final int[] frameMethod = new int[FRAMES];
    private final int[] framePlace = new int[FRAMES];
    private final int[] cells = new int[FRAME_CELLS];
    private int frames = 0;
    private int frameWordsUsed = 0;
    private int wanted = ABSENT;

    private int outcome = OK;
    private long lastResult = NOTHING;
    private int lastOrigin = ABSENT;
    private int done = 0;
    private int collections = 0;
    private int stayed = 0;
    private int turnedCount = 0;
    private int linkedCount = 0;

    public LazyCompiler() {
        for (int c = 0; c < CLASSES; c++) {
            superOf[c] = NOT_THERE;
            initialisers[c] = ABSENT;
        }
        for (int i = 0; i < SLOT_CELLS; i++) ownMethods[i] = ABSENT;
    }

    // ---- classes ----

    public boolean cls(int c, int up, int ints, int references) {
        if (c < 0 || c >= CLASSES || isClass(c)) return false;
        if (up != ABSENT && !isClass(up)) return false;
        if (ints < 0 || ints > OWN_FIELDS || references < 0 || references > OWN_FIELDS) return false;
        int above = up == ABSENT ? 0 : fieldCount[up];
        int refsAbove = up == ABSENT ? 0 : refFields[up];
        superOf[c] = up;
        fieldCount[c] = above + ints + references;
        refFields[c] = refsAbove | ((1 << references) - 1) << (above + ints);
        return true;
    }

    public boolean slot(int c, int slot, int m) {
        if (!isClass(c) || slot < 0 || slot >= SLOTS) return false;
        int least = slot < 2 ? 2 : 4;
        if (m != ABSENT && m != least && m != least + 1) return false;
        ownMethods[c * SLOTS + slot] = m;
        return true;
    }

    public boolean initialiser(int c, int m) {
        if (!isClass(c) || m < ABSENT || m > 1) return false;
        initialisers[c] = m;
        return true;
    }

    private boolean isClass(int c) {
        return c >= 0 && c < CLASSES && superOf[c] != NOT_THERE;
    }

    private boolean isField(int c, int f) {
        return isClass(c) && f >= 0 && f < fieldCount[c];
    }

    private boolean isRefField(int c, int f) {
        return (refFields[c] >> f & 1) != 0;
    }

    private boolean isBelow(int c, int upper) {
        int k = c;
        for (int i = 0; i < CLASSES && k != ABSENT; i++) {
            if (k == upper) return true;
            k = superOf[k];
        }
        return false;
    }

    private int classAbove(int c, int steps) {
        int k = c;
        for (int i = 0; i < steps && k != ABSENT; i++) k = superOf[k];
        return k;
    }

    private int methodFor(int c, int slot) {
        int k = c;
        for (int i = 0; i < CLASSES && k != ABSENT; i++) {
            int m = ownMethods[k * SLOTS + slot];
            if (m != ABSENT) return m;
            k = superOf[k];
        }
        return ABSENT;
    }

    // ---- what methods take and give; bit i for the i-th one taken ----

    private static int takes(int m) {
        if (m < 2) return 1;
        return m == 6 ? 0 : 2;
    }

    private static int takesInts(int m) {
        if (m < 2) return 1;
        return m < 6 ? 2 : 0;
    }

    private static int takesRefs(int m) {
        if (m < 2 || m == 6) return 0;
        return m == 7 ? 3 : 1;
    }

    private static boolean givesRef(int m) {
        return m >= 4 && m <= 6;
    }

    private boolean hasBody(int m) {
        return m >= 0 && m < METHODS && lengths[m] > 0;
    }

    // ---- the draft ----

    public int code(int op, int a) {
        if (op < 0 || op >= OPS || lengths[DRAFT] >= LENGTH) return REFUSED;
        int most = mostOperand(op);
        if (most >= 0 && (a < 0 || a > most)) return REFUSED;
        int at = DRAFT_START + lengths[DRAFT];
        ops[at] = op;
        operands[at] = a;
        lengths[DRAFT]++;
        return lengths[DRAFT];
    }

    private static int mostOperand(int op) {
        switch (op) {
            case LOAD: case STORE: return LOCALS - 1;
            case GOTO: case ZERO: case NONE: return LENGTH - 1;
            case NEW: case IS: return CLASSES - 1;
            case SEND: return SLOTS - 1;
            case FETCH: case KEEP: return GLOBALS - 1;
            case GET: case PUT: return CLASSES * FIELD_STEP - 1;
            case CALL: return METHODS - 1;
            default: return ABSENT;
        }
    }

    public boolean catcher(int from, int to, int goal) {
        if (from < 0 || to > LENGTH || from > to || goal < 0 || goal > LENGTH) return false;
        catchFrom[DRAFT] = from;
        catchTo[DRAFT] = to;
        catchGoal[DRAFT] = goal;
        return true;
    }

    public int make(int m) {
        faultPlace = ABSENT;
        if (m < 0 || m >= METHODS || lengths[DRAFT] == 0) return REFUSED;
        faultPlace = missingFault();
        if (faultPlace != ABSENT) return REFUSED;
        reachHeights();
        faultPlace = heightFault();
        if (faultPlace != ABSENT) return REFUSED;
        reachKinds(m);
        faultPlace = kindFault(m);
        if (faultPlace != ABSENT) return REFUSED;
        takeDraft(m);
        dropCode(m);
        unlinkCallsOf(m);
        emptyDraft();
        return OK;
    }

    public int place() {
        return faultPlace;
    }

    public int wipe() {
        int had = lengths[DRAFT];
        emptyDraft();
        return had;
    }

    private void emptyDraft() {
        lengths[DRAFT] = 0;
        catchFrom[DRAFT] = 0;
        catchTo[DRAFT] = 0;
        catchGoal[DRAFT] = 0;
    }

    private void takeDraft(int m) {
        int n = lengths[DRAFT];
        for (int at = 0; at < n; at++) {
            ops[m * LENGTH + at] = ops[DRAFT_START + at];
            operands[m * LENGTH + at] = operands[DRAFT_START + at];
            refMaps[m * LENGTH + at] = heights[at] == 0 ? ABSENT : refKinds[at];
            bodyHeights[m * LENGTH + at] = heightAt(at);
        }
        lengths[m] = n;
        catchFrom[m] = catchFrom[DRAFT];
        catchTo[m] = catchTo[DRAFT];
        catchGoal[m] = catchGoal[DRAFT];
        frameWords[m] = FRAME_BASE + greatestHeight();
    }

    private void dropCode(int m) {
        for (int at = 0; at < LENGTH; at++) codeOps[m * LENGTH + at] = NO_CODE;
    }

    private void unlinkCallsOf(int m) {
        for (int at = 0; at < BODY_CELLS; at++) {
            if (codeOps[at] == LINKED && codeArgs[at] == m) codeOps[at] = CALL;
        }
    }

    public int body(int m, int what) {
        if (!hasBody(m)) return ABSENT;
        if (what == 0) return lengths[m];
        return what == 1 ? frameWords[m] : ABSENT;
    }

    public int map(int m, int at) {
        if (!hasBody(m) || at < 0 || at >= lengths[m]) return ABSENT;
        return refMaps[m * LENGTH + at];
    }

    // ---- looking through ----

    private int missingFault() {
        int n = lengths[DRAFT];
        for (int at = 0; at < n; at++) {
            if (namesMissing(ops[DRAFT_START + at], operands[DRAFT_START + at])) return at;
        }
        boolean catches = catchFrom[DRAFT] < catchTo[DRAFT];
        if (catches && (catchTo[DRAFT] > n || catchGoal[DRAFT] >= n)) return CATCHER_PLACE;
        return ABSENT;
    }

    private boolean namesMissing(int op, int a) {
        switch (op) {
            case GOTO: case ZERO: case NONE: return a >= lengths[DRAFT];
            case NEW: case IS: return !isClass(a);
            case GET: case PUT: return !isField(a / FIELD_STEP, a % FIELD_STEP);
            default: return false;
        }
    }

    private static int pops(int op, int a) {
        switch (op) {
            case INT: case NULL: case LOAD: case GOTO: case NEW: case FETCH: return 0;
            case ADD: case SUB: case DIV: case LESS: case SAME: case PUT: case SEND: return 2;
            case CALL: return takes(a);
            default: return 1;
        }
    }

    private static int pushes(int op) {
        switch (op) {
            case STORE: case GOTO: case ZERO: case NONE: case PUT: case GIVE: case THROW: case POP: case KEEP: return 0;
            case DUP: return 2;
            default: return 1;
        }
    }

    private static boolean jumps(int op) {
        return op == GOTO || op == ZERO || op == NONE;
    }

    private static boolean goesOn(int op) {
        return op != GOTO && op != GIVE && op != THROW;
    }

    private boolean isCaught(int row, int at) {
        return at >= catchFrom[row] && at < catchTo[row];
    }

    private static boolean fits(int height, int popped, int pushed) {
        return height >= popped && height - popped + pushed <= STACK;
    }

    private void reachHeights() {
        for (int at = 0; at < LENGTH; at++) heights[at] = 0;
        heights[0] = 1;
        boolean changed = true;
        for (int pass = 0; pass < PASSES && changed; pass++) {
            changed = false;
            for (int at = 0; at < lengths[DRAFT]; at++) {
                if (spreadHeights(at)) changed = true;
            }
        }
    }

    private boolean spreadHeights(int at) {
        if (heights[at] == 0) return false;
        int op = ops[DRAFT_START + at];
        int a = operands[DRAFT_START + at];
        int popped = pops(op, a);
        int pushed = pushes(op);
        int behind = heightsBehind(heights[at], popped, pushed);
        boolean changed = false;
        if (jumps(op)) changed = addHeights(a, behind);
        if (goesOn(op) && addHeights(at + 1, behind)) changed = true;
        if (isCaught(DRAFT, at) && addHeights(catchGoal[DRAFT], 1 << 1)) changed = true;
        return changed;
    }

    private static int heightsBehind(int before, int popped, int pushed) {
        int behind = 0;
        for (int h = 0; h <= STACK; h++) {
            if ((before >> h & 1) != 0 && fits(h, popped, pushed)) behind |= 1 << (h - popped + pushed);
        }
        return behind;
    }

    private boolean addHeights(int at, int more) {
        if (at >= lengths[DRAFT]) return false;
        int before = heights[at];
        heights[at] = before | more;
        return heights[at] != before;
    }

    private int heightFault() {
        for (int at = 0; at < lengths[DRAFT]; at++) {
            if (heights[at] != 0 && hasHeightFault(at)) return at;
        }
        return ABSENT;
    }

    private boolean hasHeightFault(int at) {
        int op = ops[DRAFT_START + at];
        int popped = pops(op, operands[DRAFT_START + at]);
        int pushed = pushes(op);
        int height = heightAt(at);
        boolean several = (heights[at] & heights[at] - 1) != 0;
        boolean leavesEnd = goesOn(op) && at + 1 == lengths[DRAFT];
        return several || leavesEnd || !fits(height, popped, pushed);
    }

    private int heightAt(int at) {
        int h = 0;
        while (h < STACK && (heights[at] >> h & 1) == 0) h++;
        return h;
    }

    // The height behind an instruction is the one before the next, or, at GIVE and THROW, less than before it.
    private int greatestHeight() {
        int greatest = 0;
        for (int at = 0; at < lengths[DRAFT]; at++) {
            int height = heights[at] == 0 ? 0 : heightAt(at);
            if (height > greatest) greatest = height;
        }
        return greatest;
    }

    // All bits set stands for "no way here has been seen yet", so that meeting is always an and.
    private void reachKinds(int m) {
        for (int at = 0; at < LENGTH; at++) {
            intKinds[at] = ALL_BITS;
            refKinds[at] = ALL_BITS;
        }
        intKinds[0] = takesInts(m);
        refKinds[0] = takesRefs(m);
        boolean changed = true;
        for (int pass = 0; pass < PASSES && changed; pass++) {
            changed = false;
            for (int at = 0; at < lengths[DRAFT]; at++) {
                if (heights[at] != 0 && spreadKinds(at)) changed = true;
            }
        }
    }

    private boolean spreadKinds(int at) {
        int op = ops[DRAFT_START + at];
        int ints = kindsBehind(at, intKinds[at], KIND_INT);
        int refs = kindsBehind(at, refKinds[at], KIND_REF);
        boolean changed = false;
        if (jumps(op)) changed = meet(operands[DRAFT_START + at], ints, refs);
        if (goesOn(op) && meet(at + 1, ints, refs)) changed = true;
        if (isCaught(DRAFT, at)) {
            int caughtInts = intKinds[at] & LOCAL_BITS | 1 << LOCALS;
            if (meet(catchGoal[DRAFT], caughtInts, refKinds[at] & LOCAL_BITS)) changed = true;
        }
        return changed;
    }

    private boolean meet(int at, int ints, int refs) {
        if (at >= lengths[DRAFT]) return false;
        int intsBefore = intKinds[at];
        int refsBefore = refKinds[at];
        intKinds[at] = intsBefore & ints;
        refKinds[at] = refsBefore & refs;
        return intKinds[at] != intsBefore || refKinds[at] != refsBefore;
    }

    private int kindsBehind(int at, int before, int kind) {
        int op = ops[DRAFT_START + at];
        int a = operands[DRAFT_START + at];
        int base = LOCALS + heightAt(at) - pops(op, a);
        int kept = before & (1 << base) - 1;
        int top = before >> base & 1;
        if (op == STORE) return kept & ~(1 << a) | top << a;
        if (op == LOAD) return kept | (before >> a & 1) << base;
        if (op == DUP) return kept | top * 3 << base;
        return pushedKind(op, a) == kind ? kept | 1 << base : kept;
    }

    private int pushedKind(int op, int a) {
        switch (op) {
            case INT: case ADD: case SUB: case DIV: case LESS: case SAME: case IS: return KIND_INT;
            case NULL: case NEW: case FETCH: return KIND_REF;
            case GET: return isRefField(a / FIELD_STEP, a % FIELD_STEP) ? KIND_REF : KIND_INT;
            case CALL: return givesRef(a) ? KIND_REF : KIND_INT;
            case SEND: return a < 2 ? KIND_INT : KIND_REF;
            default: return KIND_NONE;
        }
    }

    private int kindFault(int m) {
        for (int at = 0; at < lengths[DRAFT]; at++) {
            if (heights[at] == 0) continue;
            int op = ops[DRAFT_START + at];
            int a = operands[DRAFT_START + at];
            int base = LOCALS + heightAt(at) - pops(op, a);
            int ints = neededInts(op, a, m) << base;
            int refs = neededRefs(op, a, m) << base;
            if ((intKinds[at] & ints) != ints || (refKinds[at] & refs) != refs) return at;
            if (op == LOAD && ((intKinds[at] | refKinds[at]) >> a & 1) == 0) return at;
        }
        return ABSENT;
    }

    // Of what is popped, bit 0 is the lowest one.
    private int neededInts(int op, int a, int m) {
        switch (op) {
            case ADD: case SUB: case DIV: case LESS: return 3;
            case ZERO: case THROW: return 1;
            case PUT: return isRefField(a / FIELD_STEP, a % FIELD_STEP) ? 0 : 2;
            case CALL: return takesInts(a);
            case SEND: return 2;
            case GIVE: return givesRef(m) ? 0 : 1;
            default: return 0;
        }
    }

    private int neededRefs(int op, int a, int m) {
        switch (op) {
            case SAME: return 3;
            case NONE: case GET: case IS: case KEEP: case SEND: return 1;
            case PUT: return isRefField(a / FIELD_STEP, a % FIELD_STEP) ? 3 : 1;
            case CALL: return takesRefs(a);
            case GIVE: return givesRef(m) ? 1 : 0;
            default: return 0;
        }
    }

    // ---- turning into code ----

    private boolean isCode(int m) {
        return codeOps[m * LENGTH] != NO_CODE;
    }

    private void turnIntoCode(int m) {
        turnedCount++;
        int start = m * LENGTH;
        for (int at = start; at < start + lengths[m]; at++) {
            // What is never reached has no height, and needs no code.
            if (refMaps[at] != ABSENT) turnInstruction(at, ops[at], operands[at]);
        }
    }

    // The cell of code is where the lowest stands of what the instruction pops, or what it pushes is put.
    private void turnInstruction(int at, int op, int a) {
        int lowest = LOCALS + bodyHeights[at] - pops(op, a);
        switch (op) {
            case INT: writeCode(at, FILL, lowest, a); break;
            case NULL: writeCode(at, FILL, lowest, 0); break;
            case LOAD: writeCode(at, COPY, lowest, a); break;
            case STORE: writeCode(at, COPY, a, lowest); break;
            case DUP: writeCode(at, COPY, lowest + 1, lowest); break;
            case POP: writeCode(at, SKIP, lowest, 0); break;
            // Null is 0 too, so ZERO and NONE differ in the kind they need alone.
            case ZERO: case NONE: writeCode(at, BRANCH, lowest, a); break;
            default: writeCode(at, op, lowest, a); break;
        }
    }

    private void writeCode(int at, int op, int cell, int a) {
        codeOps[at] = op;
        codeCells[at] = cell;
        codeArgs[at] = a;
    }

    // ---- running ----

    public int run(int m, int g, int h, int x) {
        if (!hasBody(m) || !isGlobal(g) || !isGlobal(h)) return REFUSED;
        lastResult = NOTHING;
        lastOrigin = ABSENT;
        outcome = LONG;
        frames = 0;
        frameWordsUsed = 0;
        takeFromOutside(m, g, h, x);
        enterWanted();
        int steps = 0;
        while (steps < MOST_DONE && outcome == LONG) {
            step();
            if (wanted != ABSENT) enterWanted();
            steps++;
        }
        done = steps;
        return outcome;
    }

    private void takeFromOutside(int m, int g, int h, int x) {
        int refs = takesRefs(m);
        cells[0] = (refs & 1) != 0 ? globals[g] : x;
        cells[1] = (refs & 2) != 0 ? globals[h] : x;
        wanted = m;
    }

    // What the wanted method takes stands already where its frame will be.
    private void enterWanted() {
        int m = wanted;
        wanted = ABSENT;
        if (!isCode(m)) turnIntoCode(m);
        if (frameWordsUsed + frameWords[m] > FRAME_ROOM) {
            raise(NO_FRAME);
            return;
        }
        frameWordsUsed += frameWords[m];
        frameMethod[frames] = m;
        framePlace[frames] = 0;
        frames++;
    }

    private void leave() {
        frames--;
        frameWordsUsed -= frameWords[frameMethod[frames]];
    }

    private void advance() {
        framePlace[frames - 1]++;
    }

    private int codePlace() {
        return frameMethod[frames - 1] * LENGTH + framePlace[frames - 1];
    }

    private void step() {
        int at = codePlace();
        int cell = (frames - 1) * ENTRIES + codeCells[at];
        int op = codeOps[at];
        int a = codeArgs[at];
        switch (op) {
            case ADD: case SUB: case DIV: case LESS: calculate(op, cell); break;
            case GOTO: goTo(a); break;
            case BRANCH: branch(cell, a); break;
            case NEW: makeObject(cell, a); break;
            case GET: getField(cell, a); break;
            case PUT: putField(cell, a); break;
            case CALL: callMethod(at, cell, a); break;
            case LINKED: handOver(cell, a); break;
            case SEND: sendToObject(cell, a); break;
            case GIVE: giveBack(cells[cell]); break;
            case THROW: raise(cells[cell]); break;
            case SAME: case IS: compare(op, cell, a); break;
            default: moveValue(op, cell, a); break;
        }
    }

    private void moveValue(int op, int cell, int a) {
        switch (op) {
            case FILL: cells[cell] = a; break;
            case COPY: cells[cell] = cells[(frames - 1) * ENTRIES + a]; break;
            case FETCH: cells[cell] = globals[a]; break;
            case KEEP: globals[a] = cells[cell]; break;
            default: break;
        }
        advance();
    }

    private void calculate(int op, int cell) {
        int x = cells[cell];
        int y = cells[cell + 1];
        if (op == DIV && y == 0) {
            raise(BY_ZERO);
            return;
        }
        switch (op) {
            case ADD: cells[cell] = x + y; break;
            case SUB: cells[cell] = x - y; break;
            case DIV: cells[cell] = x / y; break;
            default: cells[cell] = x < y ? 1 : 0; break;
        }
        advance();
    }

    private void compare(int op, int cell, int a) {
        int r = cells[cell];
        boolean holds = op == SAME ? r == cells[cell + 1] : r != 0 && isBelow(heap[r], a);
        cells[cell] = holds ? 1 : 0;
        advance();
    }

    private void goTo(int place) {
        framePlace[frames - 1] = place;
    }

    private void branch(int cell, int place) {
        if (cells[cell] == 0) goTo(place);
        else advance();
    }

    private void getField(int cell, int a) {
        int r = cells[cell];
        if (refusesField(r, a / FIELD_STEP)) return;
        cells[cell] = heap[r + 1 + a % FIELD_STEP];
        advance();
    }

    private void putField(int cell, int a) {
        int r = cells[cell];
        if (refusesField(r, a / FIELD_STEP)) return;
        heap[r + 1 + a % FIELD_STEP] = cells[cell + 1];
        advance();
    }

    private boolean refusesField(int r, int c) {
        if (r == 0) {
            raise(NO_OBJECT);
            return true;
        }
        if (!isBelow(heap[r], c)) {
            raise(OTHER_CLASS);
            return true;
        }
        return false;
    }

    private void callMethod(int at, int cell, int m) {
        if (!hasBody(m)) {
            raise(NO_METHOD);
            return;
        }
        codeOps[at] = LINKED;
        linkedCount++;
        handOver(cell, m);
    }

    private void sendToObject(int cell, int slot) {
        int r = cells[cell];
        if (r == 0) {
            raise(NO_OBJECT);
            return;
        }
        int m = methodFor(heap[r], slot);
        if (hasBody(m)) handOver(cell, m);
        else raise(NO_METHOD);
    }

    private void handOver(int cell, int m) {
        int taken = takes(m);
        for (int i = 0; i < taken; i++) cells[frames * ENTRIES + i] = cells[cell + i];
        wanted = m;
    }

    private void giveBack(int value) {
        int m = frameMethod[frames - 1];
        leave();
        if (frames == 0) {
            endWith(m, value);
            return;
        }
        int at = codePlace();
        // A caller that stands at NEW has called an initialiser, and does that NEW once more.
        if (codeOps[at] == NEW) return;
        cells[(frames - 1) * ENTRIES + codeCells[at]] = value;
        advance();
    }

    private void endWith(int m, int value) {
        outcome = OK;
        lastResult = value;
        if (givesRef(m)) {
            globals[GIVEN] = value;
            lastResult = classOf(value);
        }
    }

    private int classOf(int r) {
        return r == 0 ? ABSENT : heap[r];
    }

    private void raise(int thrown) {
        int from = frameMethod[frames - 1] * ORIGIN_STEP + framePlace[frames - 1];
        for (int top = frames - 1; top >= 0; top--) {
            int m = frameMethod[top];
            if (isCaught(m, framePlace[top])) {
                cells[top * ENTRIES + LOCALS] = thrown;
                framePlace[top] = catchGoal[m];
                return;
            }
            leave();
        }
        outcome = THROWN;
        lastResult = thrown;
        lastOrigin = from;
    }

    // ---- objects ----

    private void makeObject(int cell, int c) {
        int waiting = readyUntilInitialiser(c);
        if (waiting != ABSENT) {
            initialise(waiting);
            return;
        }
        int words = 1 + fieldCount[c];
        if (!hasRoom(words)) collect();
        if (!hasRoom(words)) {
            raise(NO_WORDS);
            return;
        }
        heap[heapEnd] = c;
        for (int f = 1; f < words; f++) heap[heapEnd + f] = 0;
        cells[cell] = heapEnd;
        heapEnd += words;
        advance();
    }

    private boolean hasRoom(int words) {
        return heapEnd - 1 + words <= WORDS;
    }

    private int readyUntilInitialiser(int c) {
        for (int steps = CLASSES - 1; steps >= 0; steps--) {
            int k = classAbove(c, steps);
            if (k == ABSENT || ready[k]) continue;
            ready[k] = true;
            if (hasBody(initialisers[k])) return k;
        }
        return ABSENT;
    }

    private void initialise(int c) {
        cells[frames * ENTRIES] = c;
        wanted = initialisers[c];
    }

    private void collect() {
        collections++;
        for (int r = 0; r < HEAP_CELLS; r++) newPlaces[r] = 0;
        markRoots();
        markFields();
        choosePlaces();
        moveRoots();
        moveObjects();
    }

    private int objectWords(int r) {
        return 1 + fieldCount[heap[r]];
    }

    // From the cell of its code on a frame has what another method took from it, which is no root of it any more.
    private int rootsOf(int frame) {
        int at = frameMethod[frame] * LENGTH + framePlace[frame];
        return refMaps[at] & (1 << codeCells[at]) - 1;
    }

    private void markRoots() {
        for (int g = 0; g < GLOBALS; g++) newPlaces[globals[g]] = 1;
        for (int frame = 0; frame < frames; frame++) {
            int refs = rootsOf(frame);
            for (int i = 0; i < ENTRIES; i++) {
                if ((refs >> i & 1) != 0) newPlaces[cells[frame * ENTRIES + i]] = 1;
            }
        }
    }

    private void markFields() {
        boolean changed = true;
        // Each pass but the last marks an object more.
        for (int pass = 0; pass <= WORDS && changed; pass++) {
            changed = false;
            int r = 1;
            for (int i = 0; i < WORDS && r < heapEnd; i++) {
                if (newPlaces[r] != 0 && markFieldsOf(r)) changed = true;
                r += objectWords(r);
            }
        }
    }

    private boolean markFieldsOf(int r) {
        boolean changed = false;
        int refs = refFields[heap[r]];
        for (int f = 0; f < fieldCount[heap[r]]; f++) {
            int other = heap[r + 1 + f];
            if ((refs >> f & 1) == 0 || other == 0 || newPlaces[other] != 0) continue;
            newPlaces[other] = 1;
            changed = true;
        }
        return changed;
    }

    private void choosePlaces() {
        int next = 1;
        int r = 1;
        for (int i = 0; i < WORDS && r < heapEnd; i++) {
            int words = objectWords(r);
            if (newPlaces[r] != 0) {
                newPlaces[r] = next;
                next += words;
                stayed++;
            }
            r += words;
        }
        newPlaces[0] = 0;
    }

    private void moveRoots() {
        for (int g = 0; g < GLOBALS; g++) globals[g] = newPlaces[globals[g]];
        for (int frame = 0; frame < frames; frame++) {
            int refs = rootsOf(frame);
            for (int i = 0; i < ENTRIES; i++) {
                int cell = frame * ENTRIES + i;
                if ((refs >> i & 1) != 0) cells[cell] = newPlaces[cells[cell]];
            }
        }
    }

    private void moveObjects() {
        int end = 1;
        int r = 1;
        for (int i = 0; i < WORDS && r < heapEnd; i++) {
            // Asked before the move, which may write over the word that holds the class.
            int words = objectWords(r);
            if (newPlaces[r] != 0) {
                moveObject(r, newPlaces[r], words);
                end = newPlaces[r] + words;
            }
            r += words;
        }
        heapEnd = end;
    }

    private void moveObject(int from, int to, int words) {
        int refs = refFields[heap[from]];
        heap[to] = heap[from];
        for (int f = 0; f < words - 1; f++) {
            int value = heap[from + 1 + f];
            heap[to + 1 + f] = (refs >> f & 1) != 0 ? newPlaces[value] : value;
        }
    }

    // ---- looking at what is there ----

    public long result() {
        return lastResult;
    }

    public int origin() {
        return lastOrigin;
    }

    public long look(int g, int what) {
        if (!isGlobal(g) || globals[g] == 0) return NOTHING;
        int r = globals[g];
        if (what == 0) return heap[r];
        if (what < 0 || what > fieldCount[heap[r]]) return NOTHING;
        int value = heap[r + what];
        return isRefField(heap[r], what - 1) ? classOf(value) : value;
    }

    public boolean go(int g, int f) {
        if (!isGlobal(g) || globals[g] == 0) return false;
        int r = globals[g];
        if (!isField(heap[r], f) || !isRefField(heap[r], f)) return false;
        globals[g] = heap[r + 1 + f];
        return true;
    }

    public boolean set(int g, int h) {
        if (!isGlobal(g)) return false;
        if (h != ABSENT && !isGlobal(h)) return false;
        globals[g] = h == ABSENT ? 0 : globals[h];
        return true;
    }

    private static boolean isGlobal(int g) {
        return g >= 0 && g < GLOBALS;
    }

    public int count(int what) {
        switch (what) {
            case 0: return done;
            case 1: return collections;
            case 2: return stayed;
            case 3: return heapEnd - 1;
            case 4: return turnedCount;
            case 5: return linkedCount;
            case 6: return readySum();
            default: return ABSENT;
        }
    }

    private int readySum() {
        int sum = 0;
        for (int c = 0; c < CLASSES; c++) {
            if (ready[c]) sum |= 1 << c;
        }
        return sum;
    }
}
