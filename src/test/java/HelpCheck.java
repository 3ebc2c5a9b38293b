/** Counts and prints the answers that are not as due, and writes drafts in a short form. */
final class HelpCheck {
    private int checked = 0;
    private int wrong = 0;
    private String part = "";

    void part(String name) {
        part = name;
    }

    void due(String call, long want, long got) {
        checked++;
        if (got == want) return;
        wrong++;
        System.out.println(part + ": " + call + " answered " + got + ", due is " + want);
    }

    void due(String call, boolean want, boolean got) {
        due(call, want ? 1L : 0L, got ? 1L : 0L);
    }

    /** The draft is emptied and filled with pairs of op and a. */
    void draft(LazyCompiler x, int... pairs) {
        x.wipe();
        for (int i = 0; i < pairs.length; i += 2) {
            due("code(" + pairs[i] + ", " + pairs[i + 1] + ")", i / 2 + 1, x.code(pairs[i], pairs[i + 1]));
        }
    }

    void made(LazyCompiler x, int m, int... pairs) {
        draft(x, pairs);
        due("make(" + m + ")", LazyCompiler.OK, x.make(m));
        due("place()", -1, x.place());
    }

    void refused(LazyCompiler x, int m, int place, int... pairs) {
        draft(x, pairs);
        due("make(" + m + ")", LazyCompiler.REFUSED, x.make(m));
        due("place()", place, x.place());
    }

    void gives(LazyCompiler x, int m, int g, int h, int value, long result) {
        due("run(" + m + ", " + g + ", " + h + ", " + value + ")", LazyCompiler.OK, x.run(m, g, h, value));
        due("result()", result, x.result());
        due("origin()", -1, x.origin());
    }

    void throwsOut(LazyCompiler x, int m, int g, int value, long result, int origin) {
        due("run(" + m + ", " + g + ", 0, " + value + ")", LazyCompiler.THROWN, x.run(m, g, 0, value));
        due("result()", result, x.result());
        due("origin()", origin, x.origin());
    }

    void end() {
        System.out.println(checked + " answers looked at, " + wrong + " not as due");
        if (wrong != 0 || checked == 0) System.exit(1);
    }
}
