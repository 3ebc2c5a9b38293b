import java.util.Arrays;
import java.util.List;
import java.util.Random;

/** Long runs of calls on the program and on the model of the document: every answer must be the same. */
public final class ModelTest {
    private static final int OBJECTS = 6000;
    private static int calls = 0;
    private static int wrong = 0;
    private static final int[] outcomes = new int[4];
    private static final int[] counted = new int[7];
    private static final int[] makes = new int[2];

    private LazyCompiler x = new LazyCompiler();
    private HelpModel y = new HelpModel();
    private final Random random;
    private final long seed;
    private final String[] fields = new String[4];
    private int left = 500;
    private boolean same = true;

    private ModelTest(long seed) {
        this.seed = seed;
        random = new Random(seed);
    }

    private long due(String call, long got, long want) {
        left--;
        calls++;
        if (got != want && same) {
            same = false;
            wrong++;
            System.out.println("seed " + seed + ": " + call + " answered " + got + ", the model " + want);
        }
        return want;
    }

    private long due(String call, boolean got, boolean want) {
        return due(call, got ? 1L : 0L, want ? 1L : 0L);
    }

    private int odd(int count) {
        if (random.nextInt(200) == 0) return random.nextBoolean() ? Integer.MIN_VALUE : Integer.MAX_VALUE;
        return random.nextInt(20) == 0 ? random.nextInt(count + 4) - 2 : random.nextInt(count);
    }

    private void classes() {
        int c = odd(4), up = random.nextInt(3) == 0 ? -1 : odd(4), ints = odd(3), references = odd(3);
        String call = "cls(" + c + ", " + up + ", " + ints + ", " + references + ")";
        if (due(call, x.cls(c, up, ints, references), y.cls(c, up, ints, references)) == 1) {
            fields[c] = (up < 0 ? "" : fields[up]) + "I".repeat(ints) + "R".repeat(references);
        }
    }

    private void slots() {
        int c = odd(4), slot = odd(4);
        int m = random.nextInt(6) == 0 ? odd(8) - 1 : (slot < 2 ? 2 : 4) + random.nextInt(2);
        due("slot(" + c + ", " + slot + ", " + m + ")", x.slot(c, slot, m), y.slot(c, slot, m));
    }

    private void initialisers() {
        int c = odd(4), m = random.nextInt(5) == 0 ? odd(4) - 1 : random.nextInt(2);
        due("initialiser(" + c + ", " + m + ")", x.initialiser(c, m), y.initialiser(c, m));
    }

    private void draft() {
        int m = odd(8);
        HelpPrograms programs = new HelpPrograms(random, fields);
        List<int[]> list = programs.draft(m < 0 || m > 7 ? 0 : m);
        if (random.nextInt(10) != 0) due("wipe()", x.wipe(), y.wipe());
        for (int[] i : list) due("code(" + i[0] + ", " + i[1] + ")", x.code(i[0], i[1]), y.code(i[0], i[1]));
        if (programs.to != 0 || random.nextInt(10) == 0) {
            String call = "catcher(" + programs.from + ", " + programs.to + ", " + programs.goal + ")";
            boolean got = x.catcher(programs.from, programs.to, programs.goal);
            due(call, got, y.catcher(programs.from, programs.to, programs.goal));
        }
        makes[(int) due("make(" + m + ")", x.make(m), y.make(m)) + 1]++;
        due("place()", x.place(), y.place());
        due("body(" + m + ", 1)", x.body(m, 1), y.body(m, 1));
        int at = odd(24), what = odd(2);
        due("map(" + m + ", " + at + ")", x.map(m, at), y.map(m, at));
        due("body(" + m + ", " + what + ")", x.body(m, what), y.body(m, what));
    }

    private void runs() {
        int m = odd(8), g = odd(4), h = odd(4), value = random.nextInt(20) - 5;
        for (int i = 0; i < 4 && y.body(m, 0) < 0 && random.nextInt(10) != 0; i++) m = odd(8);
        String call = "run(" + m + ", " + g + ", " + h + ", " + value + ")";
        long outcome = due(call, x.run(m, g, h, value), y.run(m, g, h, value));
        outcomes[(int) outcome + 1]++;
        due("result() after " + call, x.result(), y.result());
        due("origin() after " + call, x.origin(), y.origin());
        for (int what = 0; what < 7; what++) due("count(" + what + ") after " + call, x.count(what), y.count(what));
    }

    private void globals() {
        int g = odd(4), h = random.nextInt(5) == 0 ? -1 : odd(4), f = odd(4), what = odd(5);
        due("look(" + g + ", " + what + ")", x.look(g, what), y.look(g, what));
        if (random.nextInt(3) == 0) due("set(" + g + ", " + h + ")", x.set(g, h), y.set(g, h));
        if (random.nextInt(3) == 0) due("go(" + g + ", " + f + ")", x.go(g, f), y.go(g, f));
    }

    private void go() {
        for (int i = 0; i < 4; i++) classes();
        for (int i = 0; i < 6; i++) slots();
        for (int i = 0; i < 4; i++) initialisers();
        for (int i = 0; i < 5; i++) draft();
        while (left > 60 && same) {
            int kind = random.nextInt(20);
            if (kind == 0) classes();
            else if (kind == 1) slots();
            else if (kind == 2) initialisers();
            else if (kind < 6) draft();
            else if (kind < 14) runs();
            else globals();
        }
        for (int what = 0; what < 7; what++) counted[what] += y.count(what);
    }

    public static void main(String[] args) {
        int objects = args.length > 0 ? Integer.parseInt(args[0]) : OBJECTS;
        for (int seed = 0; seed < objects; seed++) new ModelTest(seed).go();
        System.out.println(calls + " calls, " + wrong + " objects differ; makes refused, ok: " + Arrays.toString(makes)
            + "; runs refused, ok, thrown, long: " + Arrays.toString(outcomes)
            + "; counts: " + Arrays.toString(counted));
        if (wrong != 0) System.exit(1);
    }
}
