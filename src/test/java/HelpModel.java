import java.util.ArrayDeque;
import java.util.ArrayList;
import java.util.Arrays;
import java.util.Deque;
import java.util.HashMap;
import java.util.HashSet;
import java.util.IdentityHashMap;
import java.util.List;
import java.util.Map;
import java.util.Set;
import java.util.TreeSet;

/**
 * The document once more, written over the Java library and in another way than the program: kinds are found by
 * following every way by itself, objects are Java objects that are counted and not moved.
 */
final class HelpModel {
    static final int OK = 0, THROWN = 1, LONG = 2, REFUSED = -1;
    static final long NOTHING = 10000000000L;
    private static final String TAKES[] = {"I", "I", "RI", "RI", "RI", "RI", "", "RR"};
    private static final char GIVES[] = {'I', 'I', 'I', 'I', 'R', 'R', 'R', 'I'};

    private static final class Cls {
        Cls up;
        int number;
        String fields;
        Integer[] slots = new Integer[4];
        Integer initialiser;
        boolean ready;
    }

    private static final class Obj {
        Cls cls;
        Object[] fields;
    }

    private static final class Ins {
        int op, a;
        boolean linked;
    }

    private static final class Body {
        List<Ins> list = new ArrayList<>();
        int from, to, goal;
        int words;
        int[] maps;
        int[] heights;
        boolean turned;
    }

    private static final class Frame {
        int m, at;
        Object[] locals = new Object[6];
        List<Object> stack = new ArrayList<>();
    }

    private final Map<Integer, Cls> classes = new HashMap<>();
    private final Body[] bodies = new Body[8];
    private final Obj[] globals = new Obj[4];
    private final List<Obj> objects = new ArrayList<>();
    private final int[] counts = new int[7];
    private Body draft = new Body();
    private int place = -1;
    private long result = NOTHING;
    private int origin = -1;
    private final List<Frame> frames = new ArrayList<>();
    private Integer ended;

    boolean cls(int c, int up, int ints, int references) {
        if (c < 0 || c > 3 || classes.containsKey(c)) return false;
        if (up != -1 && !classes.containsKey(up)) return false;
        if (ints < 0 || ints > 2 || references < 0 || references > 2) return false;
        Cls made = new Cls();
        made.up = classes.get(up);
        made.number = c;
        made.fields = (made.up == null ? "" : made.up.fields) + "II".substring(0, ints) + "RR".substring(0, references);
        classes.put(c, made);
        return true;
    }

    boolean slot(int c, int slot, int m) {
        if (!classes.containsKey(c) || slot < 0 || slot > 3) return false;
        Set<Integer> fit = slot < 2 ? Set.of(-1, 2, 3) : Set.of(-1, 4, 5);
        if (!fit.contains(m)) return false;
        classes.get(c).slots[slot] = m == -1 ? null : m;
        return true;
    }

    boolean initialiser(int c, int m) {
        if (!classes.containsKey(c) || m < -1 || m > 1) return false;
        classes.get(c).initialiser = m == -1 ? null : m;
        return true;
    }

    int code(int op, int a) {
        int[] most = {-1, -1, 5, 5, -1, -1, -1, -1, 23, 23, 23, -1, 3, 63, 63, 3, 7, 3, -1, -1, -1, -1, 3, 3};
        if (op < 0 || op > 23 || draft.list.size() == 24) return REFUSED;
        if (most[op] != -1 && (a < 0 || a > most[op])) return REFUSED;
        Ins i = new Ins();
        i.op = op;
        i.a = a;
        draft.list.add(i);
        return draft.list.size();
    }

    boolean catcher(int from, int to, int goal) {
        for (int n : new int[] {from, to, goal}) if (n < 0 || n > 24) return false;
        if (from > to) return false;
        draft.from = from;
        draft.to = to;
        draft.goal = goal;
        return true;
    }

    int make(int m) {
        place = -1;
        if (m < 0 || m > 7 || draft.list.isEmpty()) return REFUSED;
        TreeSet<Integer> faults = missing();
        if (faults.isEmpty()) faults = heights();
        if (faults.isEmpty()) faults = kinds(m);
        if (!faults.isEmpty()) {
            place = faults.first();
            return REFUSED;
        }
        bodies[m] = draft;
        for (int k = 0; k < 8; k++) {
            if (bodies[k] == null) continue;
            for (Ins i : bodies[k].list) if (i.op == 16 && (i.a == m || k == m)) i.linked = false;
        }
        draft = new Body();
        return OK;
    }

    private TreeSet<Integer> missing() {
        TreeSet<Integer> faults = new TreeSet<>();
        int n = draft.list.size();
        for (int at = 0; at < n; at++) {
            Ins i = draft.list.get(at);
            if (i.op >= 8 && i.op <= 10 && i.a >= n) faults.add(at);
            if ((i.op == 12 || i.op == 15) && !classes.containsKey(i.a)) faults.add(at);
            if (i.op == 13 || i.op == 14) {
                Cls c = classes.get(i.a / 16);
                if (c == null || i.a % 16 >= c.fields.length()) faults.add(at);
            }
        }
        if (draft.from < draft.to && (draft.to > n || draft.goal >= n)) faults.add(24);
        return faults;
    }

    /** What an instruction pops, lowest first: I, R, or x for anything. */
    private String popped(Ins i, int m) {
        switch (i.op) {
            case 3: case 20: case 21: return "x";
            case 4: case 5: case 6: case 7: return "II";
            case 9: case 19: return "I";
            case 10: case 13: case 15: case 23: return "R";
            case 11: return "RR";
            case 14: return "R" + classes.get(i.a / 16).fields.charAt(i.a % 16);
            case 16: return TAKES[i.a];
            case 17: return "RI";
            case 18: return "" + GIVES[m];
            default: return "";
        }
    }

    /** What it pushes: I, R, l for the LOCAL, x for what was popped. */
    private String pushed(Ins i) {
        switch (i.op) {
            case 0: case 4: case 5: case 6: case 7: case 11: case 15: return "I";
            case 1: case 12: case 22: return "R";
            case 2: return "l";
            case 13: return "" + classes.get(i.a / 16).fields.charAt(i.a % 16);
            case 16: return "" + GIVES[i.a];
            case 17: return i.a < 2 ? "I" : "R";
            case 20: return "xx";
            default: return "";
        }
    }

    private List<Integer> ways(int at) {
        Ins i = draft.list.get(at);
        List<Integer> to = new ArrayList<>();
        if (i.op >= 8 && i.op <= 10) to.add(i.a);
        if (i.op != 8 && i.op != 18 && i.op != 19) to.add(at + 1);
        return to;
    }

    private TreeSet<Integer> heights() {
        TreeSet<Integer> faults = new TreeSet<>();
        int n = draft.list.size();
        Set<Integer> seen = new HashSet<>();
        Deque<Integer> open = new ArrayDeque<>();
        draft.heights = new int[n];
        Arrays.fill(draft.heights, -1);
        open.add(0);
        int greatest = 0;
        while (!open.isEmpty()) {
            int state = open.remove();
            if (!seen.add(state)) continue;
            int at = state / 10, h = state % 10;
            if (draft.heights[at] != -1 && draft.heights[at] != h) faults.add(at);
            draft.heights[at] = h;
            if (at >= draft.from && at < draft.to) open.add(draft.goal * 10 + 1);
            Ins i = draft.list.get(at);
            int behind = h - popped(i, 0).length() + pushed(i).length();
            boolean can = h >= popped(i, 0).length() && behind <= 6;
            if (!can) faults.add(at);
            greatest = Math.max(greatest, h);
            if (can) greatest = Math.max(greatest, behind);
            for (int to : ways(at)) {
                if (to == n) faults.add(at);
                else if (can) open.add(to * 10 + behind);
            }
        }
        draft.words = 9 + greatest;
        return faults;
    }

    private TreeSet<Integer> kinds(int m) {
        int n = draft.list.size();
        List<Set<String>> states = new ArrayList<>();
        for (int at = 0; at < n; at++) states.add(new HashSet<>());
        Deque<Map.Entry<Integer, String>> open = new ArrayDeque<>();
        open.add(Map.entry(0, (TAKES[m] + "TTTTTT").substring(0, 6)));
        while (!open.isEmpty()) {
            Map.Entry<Integer, String> way = open.remove();
            int at = way.getKey();
            String before = way.getValue();
            if (!states.get(at).add(before)) continue;
            if (at >= draft.from && at < draft.to) open.add(Map.entry(draft.goal, before.substring(0, 6) + "I"));
            String behind = alone(draft.list.get(at), before);
            for (int to : ways(at)) open.add(Map.entry(to, behind));
        }
        return kindFaults(m, states);
    }

    private String alone(Ins i, String before) {
        int base = before.length() - popped(i, 0).length();
        String kept = before.substring(0, base);
        if (i.op == 3) return kept.substring(0, i.a) + before.charAt(base) + kept.substring(i.a + 1);
        String more = pushed(i);
        if (i.op == 2) more = "" + before.charAt(i.a);
        if (i.op == 20) more = "" + before.charAt(base) + before.charAt(base);
        return kept + more;
    }

    private TreeSet<Integer> kindFaults(int m, List<Set<String>> states) {
        TreeSet<Integer> faults = new TreeSet<>();
        draft.maps = new int[states.size()];
        for (int at = 0; at < states.size(); at++) {
            draft.maps[at] = -1;
            if (states.get(at).isEmpty()) continue;
            String met = null;
            for (String s : states.get(at)) met = met == null ? s : meet(met, s);
            draft.maps[at] = 0;
            for (int e = 0; e < met.length(); e++) if (met.charAt(e) == 'R') draft.maps[at] += 1 << e;
            Ins i = draft.list.get(at);
            String needs = popped(i, m);
            int base = met.length() - needs.length();
            for (int k = 0; k < needs.length(); k++) {
                if (needs.charAt(k) != 'x' && needs.charAt(k) != met.charAt(base + k)) faults.add(at);
            }
            if (i.op == 2 && met.charAt(i.a) == 'T') faults.add(at);
        }
        return faults;
    }

    private static String meet(String x, String y) {
        StringBuilder met = new StringBuilder();
        for (int e = 0; e < x.length(); e++) met.append(x.charAt(e) == y.charAt(e) ? x.charAt(e) : 'T');
        return met.toString();
    }

    int place() {
        return place;
    }

    int wipe() {
        int had = draft.list.size();
        draft = new Body();
        return had;
    }

    private Body bodyOf(int m) {
        return m < 0 || m > 7 ? null : bodies[m];
    }

    int body(int m, int what) {
        Body b = bodyOf(m);
        if (b == null || what < 0 || what > 1) return -1;
        return what == 0 ? b.list.size() : b.words;
    }

    int map(int m, int at) {
        Body b = bodyOf(m);
        return b == null || at < 0 || at >= b.list.size() ? -1 : b.maps[at];
    }

    int run(int m, int g, int h, int x) {
        if (bodyOf(m) == null || g < 0 || g > 3 || h < 0 || h > 3) return REFUSED;
        result = NOTHING;
        origin = -1;
        ended = null;
        frames.clear();
        counts[0] = 0;
        List<Object> taken = new ArrayList<>();
        for (char kind : TAKES[m].toCharArray()) {
            if (kind == 'I') taken.add(x);
            else taken.add(taken.isEmpty() ? globals[g] : globals[h]);
        }
        call(m, taken);
        while (ended == null) {
            if (counts[0] == 1000) return LONG;
            counts[0]++;
            step();
        }
        return ended;
    }

    private boolean call(int m, List<Object> taken) {
        if (!bodies[m].turned) counts[4]++;
        bodies[m].turned = true;
        int words = bodies[m].words;
        for (Frame f : frames) words += bodies[f.m].words;
        if (words > 120) return false;
        Frame f = new Frame();
        f.m = m;
        for (int i = 0; i < taken.size(); i++) f.locals[i] = taken.get(i);
        frames.add(f);
        return true;
    }

    private Frame top() {
        return frames.get(frames.size() - 1);
    }

    private Object pop() {
        return top().stack.remove(top().stack.size() - 1);
    }

    private void next(Object... values) {
        for (Object v : values) top().stack.add(v);
        top().at++;
    }

    private void raise(int thrown) {
        int from = 32 * top().m + top().at;
        while (!frames.isEmpty()) {
            Frame f = top();
            Body b = bodies[f.m];
            if (f.at >= b.from && f.at < b.to) {
                f.stack.clear();
                f.stack.add(thrown);
                f.at = b.goal;
                return;
            }
            frames.remove(frames.size() - 1);
        }
        ended = THROWN;
        result = thrown;
        origin = from;
    }

    private static boolean below(Object o, int c) {
        for (Cls k = o == null ? null : ((Obj) o).cls; k != null; k = k.up) if (k.number == c) return true;
        return false;
    }

    private void step() {
        Frame f = top();
        Ins i = bodies[f.m].list.get(f.at);
        if (i.op >= 4 && i.op <= 7) calculate(i.op);
        else if (i.op >= 8 && i.op <= 10) jump(i);
        else if (i.op >= 12 && i.op <= 14) object(i);
        else if (i.op >= 16 && i.op <= 19) calls(i);
        else plain(f, i);
    }

    private void plain(Frame f, Ins i) {
        switch (i.op) {
            case 0: next(i.a); break;
            case 1: next((Object) null); break;
            case 2: next(f.locals[i.a]); break;
            case 3: f.locals[i.a] = pop(); next(); break;
            case 11: next(pop() == pop() ? 1 : 0); break;
            case 15: next(below(pop(), i.a) ? 1 : 0); break;
            case 20: Object o = pop(); next(o, o); break;
            case 21: pop(); next(); break;
            case 22: next(globals[i.a]); break;
            case 23: globals[i.a] = (Obj) pop(); next(); break;
            default: throw new IllegalStateException();
        }
    }

    private void calculate(int op) {
        int y = (Integer) pop(), x = (Integer) pop();
        if (op == 6 && y == 0) raise(1);
        else next(op == 4 ? x + y : op == 5 ? x - y : op == 6 ? (int) ((long) x / y) : x < y ? 1 : 0);
    }

    private void jump(Ins i) {
        boolean go = i.op == 8;
        if (i.op == 9) go = (Integer) pop() == 0;
        if (i.op == 10) go = pop() == null;
        if (go) top().at = i.a;
        else next();
    }

    private void object(Ins i) {
        if (i.op == 12) {
            create(classes.get(i.a));
            return;
        }
        Object value = i.op == 14 ? pop() : null;
        Obj o = (Obj) pop();
        if (o == null) raise(2);
        else if (!below(o, i.a / 16)) raise(3);
        else if (i.op == 13) next(o.fields[i.a % 16]);
        else {
            o.fields[i.a % 16] = value;
            next();
        }
    }

    private void create(Cls c) {
        List<Cls> line = new ArrayList<>();
        for (Cls k = c; k != null; k = k.up) line.add(0, k);
        for (Cls k : line) {
            if (k.ready) continue;
            k.ready = true;
            if (k.initialiser == null || bodies[k.initialiser] == null) continue;
            if (!call(k.initialiser, List.of(k.number))) raise(5);
            return;
        }
        int words = 1 + c.fields.length();
        if (inUse() + words > 48) collect();
        if (inUse() + words > 48) {
            raise(6);
            return;
        }
        Obj o = new Obj();
        o.cls = c;
        o.fields = new Object[c.fields.length()];
        for (int f = 0; f < o.fields.length; f++) o.fields[f] = c.fields.charAt(f) == 'I' ? (Object) 0 : null;
        objects.add(o);
        next(o);
    }

    private int inUse() {
        int words = 0;
        for (Obj o : objects) words += 1 + o.fields.length;
        return words;
    }

    private void collect() {
        Deque<Obj> open = new ArrayDeque<>();
        for (Obj o : globals) if (o != null) open.add(o);
        for (Frame f : frames) {
            int map = bodies[f.m].maps[f.at];
            for (int l = 0; l < 6; l++) if ((map >> l & 1) != 0 && f.locals[l] != null) open.add((Obj) f.locals[l]);
            for (int k = 0; k < f.stack.size(); k++) {
                if ((map >> 6 + k & 1) != 0 && f.stack.get(k) != null) open.add((Obj) f.stack.get(k));
            }
        }
        Map<Obj, Boolean> stay = new IdentityHashMap<>();
        while (!open.isEmpty()) {
            Obj o = open.remove();
            if (stay.put(o, true) != null) continue;
            for (Object v : o.fields) if (v instanceof Obj) open.add((Obj) v);
        }
        objects.removeIf(o -> !stay.containsKey(o));
        counts[1]++;
        counts[2] += objects.size();
    }

    private void calls(Ins i) {
        if (i.op == 18) give();
        else if (i.op == 19) raise((Integer) pop());
        else if (i.op == 16) {
            if (bodies[i.a] == null) raise(4);
            else {
                if (!i.linked) counts[5]++;
                i.linked = true;
                handOver(i.a);
            }
        } else {
            Frame f = top();
            Obj o = (Obj) f.stack.get(f.stack.size() - 2);
            Integer m = null;
            for (Cls k = o == null ? null : o.cls; k != null && m == null; k = k.up) m = k.slots[i.a];
            if (o == null) raise(2);
            else if (m == null || bodies[m] == null) raise(4);
            else handOver(m);
        }
    }

    private void handOver(int m) {
        List<Object> taken = new ArrayList<>();
        for (int k = 0; k < TAKES[m].length(); k++) taken.add(0, pop());
        if (!call(m, taken)) raise(5);
    }

    private void give() {
        Object value = pop();
        int m = frames.remove(frames.size() - 1).m;
        if (!frames.isEmpty()) {
            if (bodies[top().m].list.get(top().at).op != 12) next(value);
            return;
        }
        ended = OK;
        if (GIVES[m] == 'R') globals[3] = (Obj) value;
        result = GIVES[m] == 'R' ? classNumber(value) : (Integer) value;
    }

    private static int classNumber(Object o) {
        return o == null ? -1 : ((Obj) o).cls.number;
    }

    long result() {
        return result;
    }

    int origin() {
        return origin;
    }

    private Obj at(int g) {
        return g < 0 || g > 3 ? null : globals[g];
    }

    long look(int g, int what) {
        Obj o = at(g);
        if (o == null || what < 0 || what > o.fields.length) return NOTHING;
        if (what == 0) return o.cls.number;
        boolean isInt = o.cls.fields.charAt(what - 1) == 'I';
        return isInt ? (Integer) o.fields[what - 1] : classNumber(o.fields[what - 1]);
    }

    boolean go(int g, int f) {
        Obj o = at(g);
        if (o == null || f < 0 || f >= o.fields.length || o.cls.fields.charAt(f) == 'I') return false;
        globals[g] = (Obj) o.fields[f];
        return true;
    }

    boolean set(int g, int h) {
        if (g < 0 || g > 3 || h < -1 || h > 3) return false;
        globals[g] = h == -1 ? null : globals[h];
        return true;
    }

    int count(int what) {
        if (what < 0 || what > 6) return -1;
        if (what == 3) return inUse();
        if (what != 6) return counts[what];
        int sum = 0;
        for (Cls c : classes.values()) if (c.ready) sum += 1 << c.number;
        return sum;
    }
}
