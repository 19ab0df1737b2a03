/** What is LAID OUT, and what where(), lines() and at() answer of it, after a change, after remove() and after a refused layout(). */
public final class EdgeLaidOutTest extends Scene {
    public static void main(String[] args) {
        beforeTheFirstLayout();
        notHiddenAndParentsLaidOut();
        everyChangeAfterwards();
        hiddenAfterwards();
        madeAfterwards();
        childTakenAway();
        containerTakenAway();
        rootTakenAway();
        refusedLayoutAfterALayout();
        refusedLayoutBeforeALayout();
        latestLayoutAlone();
        whatIsNoMeasure();
        linesOfEachKind();
        atFromLeftToBeforeRight();
        atWithoutWidthOrHeight();
        atTheLastChild();
        atEightInsideOneAnother();
        atBesideItsParent();
        atAfterAChange();
        Check.end("EdgeLaidOutTest");
    }

    /** 0 a row of 1 a box, 2 a column with 3 a box in it, and 4 a text. */
    private static StretchedRows some() {
        StretchedRows x = holding(ROW, 10);
        x.set(1, HIGH, 10);
        x.node(0, COLUMN);
        x.node(2, BOX);
        x.set(3, WIDE, 20);
        x.set(3, HIGH, 7);
        x.node(0, TEXT);
        x.word(4, 15);
        x.word(4, 15);
        return x;
    }

    /** Of some(), laid out in 64. */
    private static void isAsLaidOut(String when, StretchedRows x) {
        Check.same(when + ": box 3", x.where(3, LEFT) + " " + x.where(3, TOP) + " " + x.where(3, WIDTH) + " " + x.where(3, HEIGHT), "10 0 20 7");
        Check.box(x, 0, 0, 0, 64, 10);
        Check.box(x, 1, 0, 0, 10, 10);
        Check.box(x, 2, 10, 0, 20, 10);
        Check.box(x, 4, 30, 0, 34, 10);
        Check.same(when + ": lines of the row", x.lines(0), 1);
        Check.same(when + ": lines of the text", x.lines(4), 1);
        int[][] places = {{0, 0, 1}, {9, 9, 1}, {10, 0, 3}, {29, 6, 3}, {29, 7, 2}, {30, 0, 4}, {63, 9, 4}, {64, 0, NONE}, {0, 10, NONE}};
        for (int[] place : places) {
            Check.same(when + ": at(" + place[0] + ", " + place[1] + ")", x.at(place[0], place[1]), place[2]);
        }
    }

    private static void nothingIsLaidOut(String when, StretchedRows x, int upTo) {
        for (int n = -1; n <= upTo; n++) {
            Check.notLaidOut(x, n);
        }
        Check.same(when + ": at(0, 0)", x.at(0, 0), NONE);
    }

    private static void beforeTheFirstLayout() {
        nothingIsLaidOut("a new object", new StretchedRows(), 1);
        StretchedRows x = some();
        x.natural(0);
        nothingIsLaidOut("before the first layout", x, 5);
    }

    /** "LAID OUT are all nodes that are there, not HIDDEN, and whose parents are laid out" */
    private static void notHiddenAndParentsLaidOut() {
        StretchedRows x = tower(8);
        for (int n = 0; n < 8; n++) {
            x.set(n, PAD, 1);
        }
        for (int hidden = 1; hidden < 8; hidden++) {
            x.set(hidden, HIDDEN, 1);
            x.layout(50);
            Check.same("the one above the hidden one", x.where(hidden - 1, LEFT), hidden - 1);
            Check.same("at goes down to it", x.at(hidden, hidden), hidden - 1);
            for (int below : new int[] {hidden, 7}) {
                Check.badArgument("node " + below + " where " + hidden + " is hidden", () -> x.where(below, LEFT));
                Check.badArgument("lines of it", () -> x.lines(below));
            }
            x.set(hidden, HIDDEN, 0);
        }
        x.layout(50);
        Check.same("all again", x.where(7, LEFT), 7);
    }

    /** "a change afterwards does not touch what was laid out" */
    private static void everyChangeAfterwards() {
        int[] other = {5, 5, 100, 90, 3, 3, -5, 1, 77, 66, 9, 8, 3, 1};
        for (int what = GROW; what <= WRAP; what++) {
            StretchedRows x = some();
            x.layout(64);
            for (int n = 0; n <= 4; n++) {
                x.set(n, what, other[what]);
            }
            isAsLaidOut("number " + what + " of all was changed", x);
            x.natural(0);
            isAsLaidOut("and natural was asked for", x);
        }
        StretchedRows x = some();
        x.layout(64);
        for (int k = 2; k < 12; k++) {
            x.word(4, 200);
        }
        x.natural(4);
        isAsLaidOut("words were added", x);
        StretchedRows grid = holding(GRID, 1, 1, 1);
        setAll(grid, HIGH, 1, 1, 1);
        grid.layout(50);
        grid.track(0, false, 5);
        grid.track(0, false, 5);
        grid.natural(0);
        Check.same("tracks were added: lines", grid.lines(0), 3);
        seen("tracks were added", grid, WIDTH, 50, 50, 50);
        seen("tracks were added", grid, TOP, 0, 1, 2);
        Check.same("tracks were added: at", grid.at(40, 2), 3);
        linesAt("then", grid, 50, 2);
    }

    private static void hiddenAfterwards() {
        StretchedRows x = some();
        x.layout(64);
        for (int n : new int[] {3, 2, 0}) {
            x.set(n, HIDDEN, 1);
            isAsLaidOut("node " + n + " was hidden", x);
        }
        x.set(0, HIDDEN, 0);
        x.layout(64);
        Check.notLaidOut(x, 2);
        Check.notLaidOut(x, 3);
        x.set(2, HIDDEN, 0);
        x.set(3, HIDDEN, 0);
        Check.notLaidOut(x, 2);
        Check.notLaidOut(x, 3);
        Check.same("what is shown again is not found before it is laid out", x.at(12, 5), 4);
        x.layout(64);
        isAsLaidOut("all is laid out again", x);
    }

    private static void madeAfterwards() {
        StretchedRows x = some();
        x.layout(64);
        x.node(0, BOX);
        x.node(2, GRID);
        x.node(6, BOX);
        setAll(x, ORDER, 0, 0, 0, 0, -9);
        isAsLaidOut("three were made", x);
        for (int n = 5; n <= 7; n++) {
            Check.notLaidOut(x, n);
        }
        x.layout(64);
        Check.box(x, 7, 10, 7, 20, 0);
    }

    /** "a node that is taken away is no more laid out" */
    private static void childTakenAway() {
        StretchedRows x = some();
        x.layout(64);
        Check.same("remove(1)", x.remove(1), 1);
        Check.notLaidOut(x, 1);
        Check.same("at where it was", x.at(5, 5), 0);
        Check.box(x, 0, 0, 0, 64, 10);
        Check.box(x, 2, 10, 0, 20, 10);
        Check.box(x, 3, 10, 0, 20, 7);
        Check.box(x, 4, 30, 0, 34, 10);
        x.remove(4);
        x.remove(2);
        Check.same("lines of the row as they were laid out", x.lines(0), 1);
        Check.same("at where all were", x.at(30, 5), 0);
        x.layout(64);
        Check.same("lines of the row then", x.lines(0), 0);
        Check.same("at in a row of no height", x.at(30, 0), NONE);
    }

    private static void containerTakenAway() {
        StretchedRows x = some();
        x.layout(64);
        Check.same("remove(2)", x.remove(2), 2);
        Check.notLaidOut(x, 2);
        Check.notLaidOut(x, 3);
        Check.same("at where both were", x.at(12, 3), 0);
        Check.box(x, 4, 30, 0, 34, 10);
        Check.same("at the others", x.at(30, 3), 4);
        x.node(0, BOX);
        Check.notLaidOut(x, 5);
        Check.same("at where both were, one is made", x.at(12, 3), 0);
    }

    /** "NONE when .. nothing is laid out" */
    private static void rootTakenAway() {
        StretchedRows x = some();
        x.layout(64);
        Check.same("remove(0)", x.remove(0), 5);
        nothingIsLaidOut("without a root", x, 5);
        Check.badState("layout without a root", () -> x.layout(64));
        nothingIsLaidOut("after a refused layout", x, 5);
        x.node(NONE, BOX);
        x.set(5, HIGH, 4);
        nothingIsLaidOut("with a new root", x, 6);
        x.layout(30);
        Check.box(x, 5, 0, 0, 30, 4);
        Check.same("at the new root", x.at(29, 3), 5);
    }

    /** "What throws changes nothing" */
    private static void refusedLayoutAfterALayout() {
        StretchedRows x = some();
        x.layout(64);
        x.set(1, WIDE, 50);
        x.set(2, HIDDEN, 1);
        for (int width : new int[] {-1, 1001, Integer.MIN_VALUE, Integer.MAX_VALUE}) {
            Check.badArgument("layout(" + width + ")", () -> x.layout(width));
            isAsLaidOut("after a wrong width", x);
        }
        x.set(0, HIDDEN, 1);
        for (int width : new int[] {0, 30, 64, 1000}) {
            Check.badState("layout(" + width + ") of a hidden root", () -> x.layout(width));
        }
        Check.badArgument("layout(-1) of a hidden root", () -> x.layout(-1));
        isAsLaidOut("after a layout of a hidden root", x);
    }

    private static void refusedLayoutBeforeALayout() {
        StretchedRows x = some();
        Check.badArgument("layout(-1)", () -> x.layout(-1));
        nothingIsLaidOut("after a wrong width", x, 5);
        x.set(0, HIDDEN, 1);
        Check.badState("layout(64)", () -> x.layout(64));
        nothingIsLaidOut("after a layout of a hidden root", x, 5);
        x.set(0, HIDDEN, 0);
        x.layout(64);
        isAsLaidOut("after a layout", x);
    }

    /** "as of the latest layout()" */
    private static void latestLayoutAlone() {
        StretchedRows x = some();
        x.layout(1000);
        x.layout(0);
        x.layout(64);
        isAsLaidOut("after three", x);
        x.layout(64);
        isAsLaidOut("after the same again", x);
        x.set(4, HIDDEN, 1);
        x.layout(64);
        Check.notLaidOut(x, 4);
        Check.same("at where it was", x.at(40, 5), 0);
    }

    /** "IllegalArgumentException when it is not laid out, or what is another" */
    private static void whatIsNoMeasure() {
        StretchedRows x = some();
        x.layout(64);
        for (int what : new int[] {LEFT - 1, HEIGHT + 1, Integer.MIN_VALUE, Integer.MAX_VALUE}) {
            Check.badArgument("where(0, " + what + ")", () -> x.where(0, what));
        }
        for (int n : new int[] {NONE, 5, 200, Integer.MIN_VALUE, Integer.MAX_VALUE}) {
            Check.notLaidOut(x, n);
        }
        isAsLaidOut("after refused ones", x);
    }

    /** "How many lines a TEXT, ROW or GRID that is laid out was broken into; 0 for other kinds." */
    private static void linesOfEachKind() {
        for (int kind = BOX; kind <= GRID; kind++) {
            StretchedRows x = holding(kind);
            x.layout(10);
            Check.same("lines of an empty root of kind " + kind, x.lines(0), 0);
        }
        for (int kind = COLUMN; kind <= GRID; kind++) {
            StretchedRows x = holding(kind, 10, 10, 10);
            x.layout(10);
            Check.same("lines of a root of kind " + kind, x.lines(0), kind == COLUMN ? 0 : kind == ROW ? 1 : 3);
        }
        StretchedRows text = text(10, 10, 10);
        text.layout(10);
        Check.same("lines of a text", text.lines(0), 3);
    }

    /** "from its left to before its left + width and likewise from its top" */
    private static void atFromLeftToBeforeRight() {
        StretchedRows x = holding(ROW, 10);
        x.set(1, HIGH, 6);
        x.set(0, PAD, 3);
        x.layout(20);
        int[] xs = {Integer.MIN_VALUE, -1, 0, 2, 3, 12, 13, 19, 20, Integer.MAX_VALUE};
        int[] ys = {Integer.MIN_VALUE, -1, 0, 2, 3, 8, 9, 11, 12, Integer.MAX_VALUE};
        for (int i = 0; i < xs.length; i++) {
            for (int j = 0; j < ys.length; j++) {
                boolean inRoot = i > 1 && i < 8 && j > 1 && j < 8;
                boolean inBox = i > 3 && i < 6 && j > 3 && j < 6;
                Check.same("at(" + xs[i] + ", " + ys[j] + ")", x.at(xs[i], ys[j]), inBox ? 1 : inRoot ? 0 : NONE);
            }
        }
    }

    private static void atWithoutWidthOrHeight() {
        StretchedRows flat = holding(BOX);
        flat.layout(10);
        Check.same("a root of no height", flat.at(0, 0), NONE);
        flat.set(0, HIGH, 1);
        flat.layout(0);
        Check.same("a root of no width", flat.at(0, 0), NONE);
        flat.layout(1);
        Check.same("a root of 1 by 1", flat.at(0, 0), 0);
        Check.same("beside it", flat.at(1, 0), NONE);
        Check.same("below it", flat.at(0, 1), NONE);
        StretchedRows x = holding(ROW, 0, 5);
        setAll(x, HIGH, 5, 5);
        x.layout(10);
        Check.same("a child of no width has no place", x.at(0, 0), 2);
        StretchedRows column = holding(COLUMN, 5, 5);
        column.set(2, HIGH, 5);
        column.layout(10);
        Check.same("a child of no height has no place", column.at(0, 0), 2);
    }

    /** "the last child, by their order as it was laid out, that has it" */
    private static void atTheLastChild() {
        StretchedRows x = holding(GRID, 0, 0, 0);
        for (int i = 0; i < 3; i++) {
            x.track(0, false, 10);
        }
        setAll(x, HIGH, 5, 5, 5);
        setAll(x, LEAST, 30, 20, 0);
        setAll(x, MOST, 30, 20, 5);
        x.layout(40);
        int[][] placeAndNode = {{0, 1}, {9, 1}, {10, 2}, {19, 2}, {20, 3}, {24, 3}, {25, 2}, {29, 2}, {30, 0}, {39, 0}, {40, NONE}};
        for (int[] pair : placeAndNode) {
            Check.same("at(" + pair[0] + ", 0)", x.at(pair[0], 0), pair[1]);
        }
        setAll(x, ORDER, 1, 0, -1);
        setAll(x, LEAST, 0, 20, 30);
        setAll(x, MOST, 5, 20, 30);
        x.layout(40);
        int[][] turned = {{0, 3}, {9, 3}, {10, 2}, {19, 2}, {20, 1}, {24, 1}, {25, 2}, {29, 2}, {30, 0}};
        for (int[] pair : turned) {
            Check.same("by ORDER, at(" + pair[0] + ", 0)", x.at(pair[0], 0), pair[1]);
        }
        x.remove(1);
        Check.same("the last was taken away", x.at(20, 0), 2);
        x.remove(2);
        Check.same("the last two were taken away", x.at(20, 0), 3);
        x.remove(3);
        Check.same("all were taken away", x.at(20, 0), 0);
    }

    /** "and so on in that" */
    private static void atEightInsideOneAnother() {
        StretchedRows x = tower(7);
        x.node(6, BOX);
        x.set(7, HIGH, 1);
        for (int n = 0; n < 7; n++) {
            x.set(n, PAD, 1);
        }
        x.layout(15);
        Check.box(x, 7, 7, 7, 1, 1);
        for (int place = 0; place < 15; place++) {
            int due = Math.min(place, 14 - place);
            Check.same("at(" + place + ", 7)", x.at(place, 7), due);
            Check.same("at(7, " + place + ")", x.at(7, place), due);
        }
    }

    /** "beginning with the root, if it has it, the last child .. that has it; and so on in that. NONE when the root has not" */
    private static void atBesideItsParent() {
        StretchedRows x = holding(ROW);
        x.node(0, COLUMN);
        x.node(1, BOX);
        x.set(1, BASIS, 10);
        x.set(2, LEAST, 50);
        x.set(2, HIGH, 5);
        x.layout(30);
        Check.box(x, 2, 0, 0, 50, 5);
        Check.same("within both", x.at(9, 0), 2);
        Check.same("beside its parent", x.at(10, 0), 0);
        Check.same("beside the root", x.at(30, 0), NONE);
        // A later child covers the parent's place, but what is in the parent is not looked at then.
        x.node(0, BOX);
        x.set(3, ORDER, -1);
        x.set(3, BASIS, 5);
        x.layout(30);
        Check.same("the first", x.at(4, 0), 3);
        Check.same("the last, and what is in it", x.at(5, 0), 2);
        StretchedRows under = holding(GRID);
        under.track(0, false, 0);
        under.track(0, false, 0);
        under.node(0, COLUMN);
        under.node(1, BOX);
        under.node(0, BOX);
        setAll(under, HIGH, 0, 5, 5);
        setAll(under, LEAST, 20, 20, 20);
        under.layout(30);
        Check.same("the last child has no children, whatever is below it", under.at(5, 0), 3);
        under.remove(3);
        Check.same("what was below it, and what is in that", under.at(5, 0), 2);
    }

    private static void atAfterAChange() {
        StretchedRows x = holding(GRID, 0, 0);
        x.track(0, false, 0);
        x.track(0, false, 0);
        setAll(x, HIGH, 5, 5);
        setAll(x, LEAST, 20, 20);
        x.layout(30);
        x.set(1, ORDER, 9);
        x.natural(0);
        Check.same("the order as it was laid out", x.at(0, 0), 2);
        Check.badArgument("layout(-1)", () -> x.layout(-1));
        Check.same("after a refused layout", x.at(0, 0), 2);
        x.set(2, HIDDEN, 1);
        x.natural(0);
        Check.same("what was hidden is still found", x.at(0, 0), 2);
        x.layout(30);
        Check.same("then no more", x.at(0, 0), 1);
        x.set(2, HIDDEN, 0);
        x.layout(30);
        Check.same("the order as it is laid out then", x.at(0, 0), 1);
    }
}
