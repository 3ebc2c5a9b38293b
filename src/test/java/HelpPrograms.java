import java.util.ArrayList;
import java.util.List;
import java.util.Random;

/** Makes drafts, always the same ones for a seed: mostly sound ones, by keeping account of the kinds on the stack. */
final class HelpPrograms {
    private static final String[] TAKES = {"I", "I", "RI", "RI", "RI", "RI", "", "RR"};
    private static final String GIVES = "IIIIRRRI";

    private final Random random;
    /** The fields of each class, null where there is none. */
    private final String[] fields;
    private List<int[]> list;
    private List<String> before;
    private StringBuilder stack;
    private char[] locals;
    private int open;
    private String openStack;

    int from, to, goal;

    HelpPrograms(Random random, String[] fields) {
        this.random = random;
        this.fields = fields;
    }

    List<int[]> draft(int m) {
        list = new ArrayList<>();
        before = new ArrayList<>();
        stack = new StringBuilder();
        locals = (TAKES[m] + "TTTTTT").substring(0, 6).toCharArray();
        open = -1;
        from = to = goal = 0;
        if (random.nextInt(12) == 0) return anything();
        int length = 1 + random.nextInt(17);
        while (list.size() < length) one();
        finish(GIVES.charAt(m));
        if (random.nextInt(3) == 0) addCatcher(GIVES.charAt(m));
        if (random.nextInt(4) == 0) spoil();
        while (list.size() > 24) list.remove(24);
        return list;
    }

    private List<int[]> anything() {
        int length = 1 + random.nextInt(8);
        while (list.size() < length) list.add(new int[] {random.nextInt(24), random.nextInt(length)});
        if (random.nextInt(3) == 0) {
            to = 1 + random.nextInt(length);
            from = random.nextInt(to);
            goal = random.nextInt(length);
        }
        return list;
    }

    private void add(int op, int a, int pops, String pushes) {
        before.add(stack.toString());
        list.add(new int[] {op, a});
        stack.setLength(stack.length() - pops);
        stack.append(pushes);
    }

    private boolean ends(String kinds) {
        return stack.toString().endsWith(kinds);
    }

    private int someInt() {
        int[] some = {0, 1, 2, 3, -1, 7, 100, Integer.MAX_VALUE, Integer.MIN_VALUE};
        return some[random.nextInt(some.length)];
    }

    private int someClass() {
        int c = random.nextInt(4);
        for (int i = 0; i < 4 && fields[c] == null; i++) c = (c + 1) % 4;
        return c;
    }

    private void one() {
        if (open >= 0 && stack.toString().equals(openStack) && random.nextBoolean()) {
            list.get(open)[1] = list.size();
            open = -1;
        }
        boolean full = stack.length() > 4;
        switch (random.nextInt(full ? 8 : 16)) {
            case 0: popOne(); break;
            case 1: case 2: storeOne(); break;
            case 3: twoInts(); break;
            case 4: jump(); break;
            case 5: fieldOrTest(); break;
            case 6: call(); break;
            case 7: if (ends("R")) add(23, random.nextInt(4), 1, ""); break;
            case 8: add(0, someInt(), 0, "I"); break;
            case 9: case 10: loadOne(); break;
            case 11: if (stack.length() > 0) add(20, 0, 1, stack.substring(stack.length() - 1).repeat(2)); break;
            case 12: add(22, random.nextInt(4), 0, "R"); break;
            case 13: if (random.nextInt(3) == 0) add(1, 0, 0, "R"); break;
            default: create(); break;
        }
    }

    private void create() {
        int c = someClass();
        if (fields[c] != null) add(12, c, 0, "R");
    }

    private void popOne() {
        if (stack.length() > 0) add(21, 0, 1, "");
    }

    private void storeOne() {
        if (stack.length() == 0) return;
        int l = random.nextInt(6);
        char kind = stack.charAt(stack.length() - 1);
        add(3, l, 1, "");
        locals[l] = kind;
    }

    private void loadOne() {
        int l = random.nextInt(6);
        if (locals[l] != 'T') add(2, l, 0, "" + locals[l]);
    }

    private void twoInts() {
        if (ends("II")) add(4 + random.nextInt(4), 0, 2, "I");
        else if (ends("RR")) add(11, 0, 2, "I");
    }

    private void jump() {
        int pops = ends("I") || ends("R") ? 1 : 0;
        int op = pops == 0 ? 8 : ends("I") ? 9 : 10;
        String behind = stack.substring(0, stack.length() - pops);
        if (open < 0 && op != 8 && random.nextInt(3) != 0) {
            open = list.size();
            openStack = behind;
            add(op, 0, pops, "");
            return;
        }
        List<Integer> fit = new ArrayList<>();
        for (int at = 0; at < before.size(); at++) if (before.get(at).equals(behind)) fit.add(at);
        if (!fit.isEmpty() && op != 8) add(op, fit.get(random.nextInt(fit.size())), pops, "");
    }

    private void fieldOrTest() {
        int c = someClass();
        if (fields[c] == null) return;
        if (ends("R") && random.nextInt(4) == 0) {
            add(15, c, 1, "I");
            return;
        }
        if (fields[c].isEmpty()) return;
        int f = random.nextInt(fields[c].length());
        String kind = fields[c].substring(f, f + 1);
        if (ends("R" + kind) && random.nextInt(4) != 0) add(14, c * 16 + f, 2, "");
        else if (ends("R")) add(13, c * 16 + f, 1, kind);
    }

    private void call() {
        int m = random.nextInt(8);
        int slot = random.nextInt(4);
        boolean takes = stack.length() < 4 && list.size() < 18 && random.nextBoolean();
        for (int i = 0; takes && i < TAKES[m].length(); i++) {
            if (TAKES[m].charAt(i) == 'I') add(0, someInt(), 0, "I");
            else add(22, random.nextInt(4), 0, "R");
        }
        if (ends("RI") && random.nextBoolean()) add(17, slot, 2, slot < 2 ? "I" : "R");
        else if (ends(TAKES[m])) add(16, m, TAKES[m].length(), GIVES.substring(m, m + 1));
        else if (ends("I") && random.nextInt(8) == 0) throwOne();
    }

    private void throwOne() {
        String kept = stack.substring(0, stack.length() - 1);
        add(19, 0, 1, "");
        // What stands behind a THROW is reached only by the open jump.
        if (open >= 0) {
            list.get(open)[1] = list.size();
            stack = new StringBuilder(openStack);
            open = -1;
        } else {
            stack = new StringBuilder(kept);
        }
    }

    private void finish(char gives) {
        if (open >= 0) {
            while (stack.length() > openStack.length()) popOne();
            list.get(open)[1] = list.size();
        }
        if (!ends("" + gives)) {
            if (stack.length() > 5) popOne();
            if (gives == 'I') add(0, someInt(), 0, "I");
            else if (random.nextBoolean()) create();
            if (!ends("" + gives)) add(1, 0, 0, "R");
        }
        int back = random.nextInt(6);
        if (back == 0 && stack.length() == 1) {
            popOne();
            add(8, 0, 0, "");
        } else {
            add(18, 0, 1, "");
        }
    }

    private void addCatcher(char gives) {
        int n = list.size();
        if (n > 20) return;
        from = random.nextInt(n);
        to = from + 1 + random.nextInt(n - from);
        goal = n;
        stack = new StringBuilder("I");
        open = -1;
        for (int[] i : list) if (i[0] == 3) locals[i[1]] = 'T';
        int length = n + random.nextInt(23 - n);
        while (list.size() < length) one();
        finish(gives);
        if (random.nextInt(3) == 0) goalFirst();
    }

    /** What is caught stands before the rest: a GOTO leads over it. */
    private void goalFirst() {
        int n = list.size();
        if (n > 23) return;
        int moved = n - goal;
        List<int[]> turned = new ArrayList<>();
        turned.add(new int[] {8, moved + 1});
        for (int at = 0; at < n; at++) {
            int[] i = list.get((goal + at) % n);
            if (i[0] >= 8 && i[0] <= 10) i[1] = i[1] < goal ? i[1] + moved + 1 : i[1] - goal + 1;
            turned.add(i);
        }
        from += moved + 1;
        to += moved + 1;
        goal = 1;
        list = turned;
    }

    private void spoil() {
        int at = random.nextInt(list.size());
        switch (random.nextInt(6)) {
            case 0: list.get(at)[0] = random.nextInt(24); break;
            case 1: list.get(at)[1] = random.nextInt(24); break;
            case 2: list.remove(at); break;
            case 3: list.add(at, new int[] {random.nextInt(24), random.nextInt(6)}); break;
            case 4: from = random.nextInt(26) - 1; to = random.nextInt(26); goal = random.nextInt(26); break;
            default: list.get(at)[0] = 8 + random.nextInt(3); list.get(at)[1] = random.nextInt(list.size() + 1); break;
        }
    }
}
