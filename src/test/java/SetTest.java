/** Promise 4: set. */
public final class SetTest {
    private static final int[] LOWEST = {0, 0, -1, 0, 0, 0, -9, 0, 0, 0, 0, 0, 0, 0};
    private static final int[] HIGHEST = {9, 9, 500, 500, 1000, 3, 9, 1, 500, 500, 50, 50, 3, 1};

    public static void main(String[] args) {
        keepsToTheRanges();
        refusesWrongNodesAndNumbers();
        firstValues();
        refusedChangesNothing();
        Check.end("SetTest");
    }

    private static void keepsToTheRanges() {
        for (int kind = StretchedRows.BOX; kind <= StretchedRows.GRID; kind++) {
            StretchedRows x = new StretchedRows();
            x.node(StretchedRows.NONE, kind);
            for (int what = 0; what < LOWEST.length; what++) {
                int w = what;
                String name = "set(0, " + what + ") of kind " + kind;
                x.set(0, what, LOWEST[what]);
                x.set(0, what, HIGHEST[what]);
                Check.badArgument(name + " too low", () -> x.set(0, w, LOWEST[w] - 1));
                Check.badArgument(name + " too high", () -> x.set(0, w, HIGHEST[w] + 1));
                Check.badArgument(name + " lowest int", () -> x.set(0, w, Integer.MIN_VALUE));
                Check.badArgument(name + " highest int", () -> x.set(0, w, Integer.MAX_VALUE));
            }
        }
    }

    private static void refusesWrongNodesAndNumbers() {
        StretchedRows x = new StretchedRows();
        x.node(StretchedRows.NONE, StretchedRows.ROW);
        x.node(0, StretchedRows.BOX);
        x.remove(1);
        for (int n : new int[] {StretchedRows.NONE, 1, 2, Integer.MIN_VALUE, Integer.MAX_VALUE}) {
            Check.badArgument("node " + n, () -> x.set(n, StretchedRows.GROW, 0));
        }
        for (int what : new int[] {-1, 14, Integer.MIN_VALUE, Integer.MAX_VALUE}) {
            Check.badArgument("number " + what, () -> x.set(0, what, 0));
        }
    }

    private static void firstValues() {
        StretchedRows x = new StretchedRows();
        x.node(StretchedRows.NONE, StretchedRows.ROW);
        for (int n = 1; n <= 2; n++) {
            x.node(0, StretchedRows.BOX);
            x.set(n, StretchedRows.WIDE, 40);
        }
        Check.same("no GAP and no PAD", x.natural(0), 80);
        x.set(1, StretchedRows.HIGH, 10);
        x.layout(200);
        Check.box(x, 1, 0, 0, 40, 10);
        Check.box(x, 2, 40, 0, 40, 10);
        x.layout(50);
        Check.box(x, 1, 0, 0, 25, 10);
        Check.box(x, 2, 25, 0, 25, 10);
        Check.same("no WRAP", x.lines(0), 1);
        x.set(1, StretchedRows.SHRINK, 1);
        x.layout(50);
        Check.same("SHRINK is 1 at first, as it is when set so", x.where(2, 2), 25);
        x.set(1, StretchedRows.GROW, 0);
        x.set(1, StretchedRows.ORDER, 0);
        x.set(1, StretchedRows.BASIS, -1);
        x.layout(200);
        Check.same("so are GROW, ORDER and BASIS", x.where(2, 0), 40);
        x.layout(1000);
        Check.same("MOST of the root", x.where(0, 2), 1000);
        x.layout(0);
        Check.same("LEAST of the root", x.where(0, 2), 0);
        Check.same("LEAST of a child", x.where(1, 2), 0);
    }

    private static void refusedChangesNothing() {
        StretchedRows x = new StretchedRows();
        x.node(StretchedRows.NONE, StretchedRows.BOX);
        x.set(0, StretchedRows.WIDE, 12);
        Check.badArgument("too wide", () -> x.set(0, StretchedRows.WIDE, 501));
        Check.same("natural(0)", x.natural(0), 12);
        x.set(0, StretchedRows.WIDE, 0);
        Check.same("natural(0) after a right one", x.natural(0), 0);
    }
}
