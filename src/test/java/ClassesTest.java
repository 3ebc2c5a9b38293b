/** Promises 1 to 4: a new object, cls, slot, initialiser. */
public final class ClassesTest implements HelpOps {
    private static final long NOTHING = LazyCompiler.NOTHING;
    private static final HelpCheck check = new HelpCheck();

    public static void main(String[] args) {
        newObject();
        classNumbers();
        fieldOrder();
        slotMethods();
        slotsFromAbove();
        initialiserMethods();
        initialiserCalled();
        check.end();
    }

    private static void newObject() {
        check.part("promise 1");
        LazyCompiler x = new LazyCompiler();
        check.due("result()", NOTHING, x.result());
        check.due("origin()", -1, x.origin());
        check.due("place()", -1, x.place());
        for (int what = 0; what < 7; what++) check.due("count(" + what + ")", 0, x.count(what));
        for (int g = 0; g < 4; g++) {
            check.due("look(" + g + ", 0)", NOTHING, x.look(g, 0));
            check.due("go(" + g + ", 0)", false, x.go(g, 0));
        }
        for (int m = 0; m < 8; m++) {
            check.due("body(" + m + ", 0)", -1, x.body(m, 0));
            check.due("map(" + m + ", 0)", -1, x.map(m, 0));
            check.due("run(" + m + ", 0, 0, 0)", LazyCompiler.REFUSED, x.run(m, 0, 0, 0));
        }
        for (int c = 0; c < 4; c++) {
            check.due("slot(" + c + ", 0, -1)", false, x.slot(c, 0, -1));
            check.due("initialiser(" + c + ", -1)", false, x.initialiser(c, -1));
        }
        check.due("wipe()", 0, x.wipe());
        check.made(x, 0, INT, 1, INT, 0, DIV, 0, GIVE, 0, GIVE, 0);
        check.throwsOut(x, 0, 0, 0, 1, 2);
    }

    private static void classNumbers() {
        check.part("promise 2, numbers");
        LazyCompiler x = new LazyCompiler();
        check.due("c -1", false, x.cls(-1, -1, 0, 0));
        check.due("c 4", false, x.cls(4, -1, 0, 0));
        check.due("up itself", false, x.cls(0, 0, 0, 0));
        check.due("up not there", false, x.cls(0, 1, 0, 0));
        check.due("up -2", false, x.cls(0, -2, 0, 0));
        check.due("up 4", false, x.cls(0, 4, 0, 0));
        check.due("ints -1", false, x.cls(0, -1, -1, 0));
        check.due("ints 3", false, x.cls(0, -1, 3, 0));
        check.due("references -1", false, x.cls(0, -1, 0, -1));
        check.due("references 3", false, x.cls(0, -1, 0, 3));
        check.due("still not there", false, x.slot(0, 0, -1));
        check.due("no fields", true, x.cls(0, -1, 0, 0));
        check.due("twice", false, x.cls(0, -1, 1, 1));
        check.due("most fields", true, x.cls(3, 0, 2, 2));
        check.due("below another", true, x.cls(1, 3, 2, 2));
        check.due("least number last", true, x.cls(2, 1, 2, 2));
        for (int c = 0; c < 4; c++) check.due("all there", false, x.cls(c, -1, 0, 0));
    }

    private static void fieldOrder() {
        check.part("promise 2, fields");
        LazyCompiler x = new LazyCompiler();
        check.due("cls", true, x.cls(0, -1, 2, 1));
        check.due("cls", true, x.cls(1, 0, 1, 2));
        check.made(x, 6, NEW, 1, GIVE, 0);
        check.gives(x, 6, 0, 0, 0, 1);
        long[] due = {1, 0, 0, -1, 0, -1, -1, NOTHING};
        for (int what = 0; what < due.length; what++) check.due("look(3, " + what + ")", due[what], x.look(3, what));
        check.due("count(3)", 7, x.count(3));

        x = new LazyCompiler();
        for (int c = 0; c < 4; c++) check.due("cls", true, x.cls(c, c - 1, 2, 2));
        check.made(x, 6, NEW, 3, DUP, 0, INT, 5, PUT, 3 * 16 + 13, DUP, 0, DUP, 0, PUT, 3 * 16 + 15, GIVE, 0);
        check.gives(x, 6, 0, 0, 0, 3);
        check.due("FIELD 12", 0, x.look(3, 13));
        check.due("FIELD 13", 5, x.look(3, 14));
        check.due("FIELD 14", -1, x.look(3, 15));
        check.due("FIELD 15", 3, x.look(3, 16));
        check.due("FIELD 16", NOTHING, x.look(3, 17));
    }

    private static void slotMethods() {
        check.part("promise 3, methods");
        LazyCompiler x = new LazyCompiler();
        check.due("cls", true, x.cls(1, -1, 0, 0));
        for (int slot = 0; slot < 4; slot++) {
            for (int m = -3; m < 10; m++) {
                boolean due = m == -1 || (slot < 2 ? m == 2 || m == 3 : m == 4 || m == 5);
                check.due("slot(1, " + slot + ", " + m + ")", due, x.slot(1, slot, m));
            }
        }
        check.due("no class", false, x.slot(0, 0, 2));
        check.due("class -1", false, x.slot(-1, 0, 2));
        check.due("class 4", false, x.slot(4, 0, 2));
        check.due("slot -1", false, x.slot(1, -1, 2));
        check.due("slot 4", false, x.slot(1, 4, 4));
    }

    private static void slotsFromAbove() {
        check.part("promise 3, from above");
        LazyCompiler x = new LazyCompiler();
        check.due("cls", true, x.cls(0, -1, 0, 0));
        check.due("cls", true, x.cls(1, 0, 0, 0));
        check.due("cls", true, x.cls(2, 1, 0, 0));
        check.made(x, 2, INT, 22, GIVE, 0);
        check.made(x, 3, INT, 33, GIVE, 0);
        check.made(x, 6, NEW, 2, GIVE, 0);
        check.made(x, 7, LOAD, 0, INT, 0, SEND, 1, GIVE, 0);
        check.gives(x, 6, 0, 0, 0, 2);
        check.throwsOut(x, 7, 3, 0, 4, 7 * 32 + 2);
        check.due("slot", true, x.slot(0, 1, 2));
        check.gives(x, 7, 3, 0, 0, 22);
        check.due("slot", true, x.slot(2, 1, 3));
        check.gives(x, 7, 3, 0, 0, 33);
        check.due("a slot of another number", true, x.slot(2, 0, 2));
        check.due("not a method for it", false, x.slot(2, 1, 4));
        check.gives(x, 7, 3, 0, 0, 33);
        check.due("none of its own", true, x.slot(2, 1, -1));
        check.gives(x, 7, 3, 0, 0, 22);
        check.due("slot", true, x.slot(1, 1, 3));
        check.gives(x, 7, 3, 0, 0, 33);
        check.due("none above", true, x.slot(0, 1, -1));
        check.due("none between", true, x.slot(1, 1, -1));
        check.throwsOut(x, 7, 3, 0, 4, 7 * 32 + 2);
    }

    private static void initialiserMethods() {
        check.part("promise 4, methods");
        LazyCompiler x = new LazyCompiler();
        check.due("not there", false, x.initialiser(2, 0));
        check.due("cls", true, x.cls(2, -1, 0, 0));
        for (int m = -3; m < 9; m++) check.due("initialiser(2, " + m + ")", m >= -1 && m <= 1, x.initialiser(2, m));
        check.due("class -1", false, x.initialiser(-1, 0));
        check.due("class 4", false, x.initialiser(4, 0));
        check.due("class 1", false, x.initialiser(1, -1));
    }

    private static LazyCompiler withInitialiser(int... methods) {
        LazyCompiler x = new LazyCompiler();
        check.due("cls", true, x.cls(2, -1, 1, 0));
        for (int m : methods) check.due("initialiser(2, " + m + ")", m < 2, x.initialiser(2, m));
        check.made(x, 0, NEW, 2, DUP, 0, LOAD, 0, PUT, 32, KEEP, 0, INT, 1, GIVE, 0);
        check.made(x, 1, INT, 1, INT, 0, DIV, 0, GIVE, 0);
        check.made(x, 6, NEW, 2, GIVE, 0);
        return x;
    }

    private static void initialiserCalled() {
        check.part("promise 4, called");
        LazyCompiler x = withInitialiser(1, 0, 2);
        check.gives(x, 6, 0, 0, 0, 2);
        check.due("the class's number", 2, x.look(0, 1));
        check.due("count(0)", 1 + 7 + 2, x.count(0));
        check.due("count(6)", 4, x.count(6));
        check.gives(x, 6, 0, 0, 0, 2);
        check.due("once only", 2, x.count(0));

        x = withInitialiser(0, 1);
        check.throwsOut(x, 6, 0, 0, 1, 32 + 2);
        check.due("count(0)", 1 + 3, x.count(0));
        check.due("READY all the same", 4, x.count(6));
        check.gives(x, 6, 0, 0, 0, 2);

        x = withInitialiser(0, -1);
        check.gives(x, 6, 0, 0, 0, 2);
        check.due("none", 2, x.count(0));
        check.due("READY without one", 4, x.count(6));
    }
}
