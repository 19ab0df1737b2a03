/** Promise 7: layout of the root, of columns and of boxes in boxes; what it throws. */
public final class LayoutTest {
    public static void main(String[] args) {
        refusesWrongWidths();
        refusesWithoutRoot();
        clampsTheRoot();
        column();
        columnPlaces();
        emptyColumn();
        nested();
        hidesWholeParts();
        Check.end("LayoutTest");
    }

    private static StretchedRows root(int kind) {
        StretchedRows x = new StretchedRows();
        x.node(StretchedRows.NONE, kind);
        return x;
    }

    private static int box(StretchedRows x, int parent, int wide, int high) {
        int made = x.node(parent, StretchedRows.BOX);
        x.set(made, StretchedRows.WIDE, wide);
        x.set(made, StretchedRows.HIGH, high);
        return made;
    }

    private static void refusesWrongWidths() {
        StretchedRows x = root(StretchedRows.BOX);
        x.layout(30);
        for (int width : new int[] {-1, 1001, Integer.MIN_VALUE, Integer.MAX_VALUE}) {
            Check.badArgument("layout(" + width + ")", () -> x.layout(width));
        }
        Check.box(x, 0, 0, 0, 30, 0);
        x.layout(0);
        Check.box(x, 0, 0, 0, 0, 0);
        x.layout(1000);
        Check.box(x, 0, 0, 0, 1000, 0);
    }

    private static void refusesWithoutRoot() {
        StretchedRows x = new StretchedRows();
        Check.badState("no node is there", () -> x.layout(10));
        Check.badArgument("no node is there and a wrong width", () -> x.layout(-1));
        x.node(StretchedRows.NONE, StretchedRows.COLUMN);
        box(x, 0, 5, 6);
        x.layout(20);
        x.set(0, StretchedRows.HIDDEN, 1);
        Check.badState("the root is hidden", () -> x.layout(30));
        Check.badArgument("the root is hidden and a wrong width", () -> x.layout(1001));
        Check.box(x, 0, 0, 0, 20, 6);
        Check.box(x, 1, 0, 0, 20, 6);
        Check.same("at as it was laid out", x.at(19, 5), 1);
        x.remove(0);
        Check.badState("no node is there any more", () -> x.layout(10));
    }

    private static void clampsTheRoot() {
        StretchedRows x = root(StretchedRows.BOX);
        x.set(0, StretchedRows.HIGH, 13);
        x.set(0, StretchedRows.MOST, 100);
        x.set(0, StretchedRows.LEAST, 40);
        Check.same("layout(70)", x.layout(70), 13);
        Check.box(x, 0, 0, 0, 70, 13);
        x.layout(101);
        Check.box(x, 0, 0, 0, 100, 13);
        x.layout(39);
        Check.box(x, 0, 0, 0, 40, 13);
        x.set(0, StretchedRows.LEAST, 150);
        x.layout(120);
        Check.box(x, 0, 0, 0, 150, 13);
        x.set(0, StretchedRows.BASIS, 7);
        x.set(0, StretchedRows.ALIGN, StretchedRows.END);
        x.set(0, StretchedRows.LEAST, 0);
        x.layout(90);
        Check.box(x, 0, 0, 0, 90, 13);
    }

    private static void column() {
        StretchedRows x = root(StretchedRows.COLUMN);
        box(x, 0, 10, 5);
        box(x, 0, 20, 6);
        box(x, 0, 30, 7);
        x.set(0, StretchedRows.GAP, 3);
        x.set(0, StretchedRows.PAD, 4);
        Check.same("layout(50)", x.layout(50), 5 + 6 + 7 + 6 + 8);
        Check.box(x, 1, 4, 4, 42, 5);
        Check.box(x, 2, 4, 12, 42, 6);
        Check.box(x, 3, 4, 21, 42, 7);
        x.set(3, StretchedRows.ORDER, -1);
        x.set(1, StretchedRows.MOST, 25);
        x.set(2, StretchedRows.LEAST, 60);
        x.layout(50);
        Check.box(x, 3, 4, 4, 42, 7);
        Check.box(x, 1, 4, 14, 25, 5);
        Check.box(x, 2, 4, 22, 60, 6);
        x.set(1, StretchedRows.HIDDEN, 1);
        Check.same("layout(50) without one", x.layout(50), 6 + 7 + 3 + 8);
    }

    private static void columnPlaces() {
        StretchedRows x = root(StretchedRows.COLUMN);
        for (int how = 0; how <= 3; how++) {
            int made = box(x, 0, 15, 1);
            x.set(made, StretchedRows.ALIGN, how);
            x.set(made, StretchedRows.LEAST, 15);
        }
        x.set(0, StretchedRows.PAD, 2);
        x.layout(30);
        Check.box(x, 1, 2, 2, 26, 1);
        Check.box(x, 2, 2, 3, 15, 1);
        Check.box(x, 3, 7, 4, 15, 1);
        Check.box(x, 4, 13, 5, 15, 1);
        // An inner width of 10: 5 too few, and half of -5 rounded down is -3.
        x.layout(14);
        Check.box(x, 1, 2, 2, 15, 1);
        Check.box(x, 2, 2, 3, 15, 1);
        Check.box(x, 3, -1, 4, 15, 1);
        Check.box(x, 4, -3, 5, 15, 1);
        // Narrower than the pads: an inner width of 0.
        x.layout(1);
        Check.box(x, 3, 2 - 8, 4, 15, 1);
        Check.box(x, 4, 2 - 15, 5, 15, 1);
        x.set(2, StretchedRows.BASIS, 21);
        x.layout(30);
        Check.box(x, 2, 2, 3, 21, 1);
        x.set(2, StretchedRows.MOST, 18);
        x.layout(30);
        Check.box(x, 2, 2, 3, 18, 1);
    }

    private static void emptyColumn() {
        StretchedRows x = root(StretchedRows.COLUMN);
        x.set(0, StretchedRows.PAD, 7);
        x.set(0, StretchedRows.GAP, 5);
        Check.same("the height", x.layout(5), 14);
        Check.same("the natural width", x.natural(0), 14);
    }

    private static void nested() {
        StretchedRows x = root(StretchedRows.COLUMN);
        x.set(0, StretchedRows.PAD, 1);
        int row = x.node(0, StretchedRows.ROW);
        x.set(row, StretchedRows.PAD, 2);
        box(x, row, 10, 30);
        int grid = x.node(row, StretchedRows.GRID);
        x.set(grid, StretchedRows.PAD, 3);
        x.set(grid, StretchedRows.ALIGN, StretchedRows.END);
        x.set(grid, StretchedRows.GROW, 1);
        int text = x.node(grid, StretchedRows.TEXT);
        x.word(text, 20);
        x.word(text, 20);
        // The row has 98, in it the grid has 84, the text 78: one line.
        Check.same("layout(100)", x.layout(100), 36);
        Check.box(x, row, 1, 1, 98, 34);
        Check.box(x, grid, 13, 17, 84, 16);
        Check.box(x, text, 16, 20, 78, 10);
        // The row has 46, in it the grid has 32, the text 26: two lines.
        x.set(2, StretchedRows.SHRINK, 0);
        Check.same("layout(48)", x.layout(48), 36);
        Check.box(x, grid, 13, 7, 32, 26);
        Check.box(x, text, 16, 10, 26, 20);
        Check.same("lines", x.lines(text), 2);
    }

    private static void hidesWholeParts() {
        StretchedRows x = root(StretchedRows.COLUMN);
        int row = x.node(0, StretchedRows.ROW);
        int inside = box(x, row, 10, 10);
        int after = box(x, 0, 10, 5);
        x.set(0, StretchedRows.GAP, 9);
        Check.same("layout(40)", x.layout(40), 24);
        x.set(row, StretchedRows.HIDDEN, 1);
        Check.box(x, inside, 0, 0, 10, 10);
        Check.same("layout(40) with the row hidden", x.layout(40), 5);
        Check.notLaidOut(x, row);
        Check.notLaidOut(x, inside);
        Check.box(x, after, 0, 0, 40, 5);
        Check.same("at does not find what is hidden", x.at(5, 0), after);
        x.set(row, StretchedRows.HIDDEN, 0);
        Check.same("layout(40) with the row again", x.layout(40), 24);
        Check.box(x, inside, 0, 0, 10, 10);
    }
}
