import java.util.ArrayList;
import java.util.List;

/** A draft that is put together piece by piece, for jumps whose goals are told by where a piece begins. */
final class HelpDraft implements HelpOps {
    private final List<int[]> list = new ArrayList<>();
    private int from = 0, to = 0, goal = 0;

    HelpDraft add(int... pairs) {
        for (int i = 0; i < pairs.length; i += 2) list.add(new int[] {pairs[i], pairs[i + 1]});
        return this;
    }

    HelpDraft times(int count, int op, int a) {
        for (int i = 0; i < count; i++) add(op, a);
        return this;
    }

    /** An entry of a kind: I, R, or T for one that is INT on one way and REF on the other (four more instructions). */
    HelpDraft push(char kind) {
        if (kind == 'I') return add(INT, 1);
        if (kind == 'R') return add(NULL, 0);
        int at = size();
        return add(INT, 1, ZERO, at + 4, INT, 1, GOTO, at + 5, NULL, 0);
    }

    HelpDraft catcher(int first, int behind, int place) {
        from = first;
        to = behind;
        goal = place;
        return this;
    }

    int size() {
        return list.size();
    }

    private void write(HelpCheck check, LazyCompiler x) {
        x.wipe();
        for (int i = 0; i < list.size(); i++) check.due("code", i + 1, x.code(list.get(i)[0], list.get(i)[1]));
        if (from < to) check.due("catcher", true, x.catcher(from, to, goal));
    }

    private String text() {
        StringBuilder text = new StringBuilder();
        for (int[] i : list) text.append(' ').append(i[0]).append(':').append(i[1]);
        return from < to ? text + " catcher " + from + ".." + to + " at " + goal : text.toString();
    }

    /** It is made the body of method m; due is the place of its first fault, or -1. */
    void due(HelpCheck check, LazyCompiler x, int m, int place) {
        write(check, x);
        check.due("make(" + m + ") of" + text(), place < 0 ? LazyCompiler.OK : LazyCompiler.REFUSED, x.make(m));
        check.due("place() of" + text(), place, x.place());
    }
}
