/** Promises 8 to 10: where, lines and at, all as of the latest layout. */
public final class LaidOutTest {
    public static void main(String[] args) {
        whereRefuses();
        linesByKind();
        keepsWhatWasLaidOut();
        atEdges();
        atTakesTheLastChild();
        atGoesDown();
        atKeepsTheOrderLaidOut();
        Check.end("LaidOutTest");
    }

    private static StretchedRows rowOf(int... highs) {
        StretchedRows x = new StretchedRows();
        x.node(StretchedRows.NONE, StretchedRows.ROW);
        for (int k = 0; k < highs.length; k++) {
            x.node(0, StretchedRows.BOX);
            x.set(k + 1, StretchedRows.WIDE, 10);
            x.set(k + 1, StretchedRows.HIGH, highs[k]);
        }
        return x;
    }

    private static void whereRefuses() {
        StretchedRows x = rowOf(5);
        Check.notLaidOut(x, 0);
        Check.notLaidOut(x, 1);
        Check.same("at before the first layout", x.at(0, 0), StretchedRows.NONE);
        x.layout(50);
        Check.box(x, 1, 0, 0, 10, 5);
        for (int what : new int[] {-1, 4, Integer.MIN_VALUE, Integer.MAX_VALUE}) {
            Check.badArgument("where(1, " + what + ")", () -> x.where(1, what));
        }
        for (int n : new int[] {StretchedRows.NONE, 2, 200, Integer.MIN_VALUE, Integer.MAX_VALUE}) {
            Check.notLaidOut(x, n);
        }
        x.node(0, StretchedRows.BOX);
        Check.notLaidOut(x, 2);
        x.layout(50);
        Check.box(x, 2, 10, 0, 0, 5);
    }

    private static void linesByKind() {
        StretchedRows x = new StretchedRows();
        x.node(StretchedRows.NONE, StretchedRows.COLUMN);
        x.node(0, StretchedRows.BOX);
        x.node(0, StretchedRows.TEXT);
        x.word(2, 30);
        x.word(2, 30);
        x.node(0, StretchedRows.COLUMN);
        x.node(3, StretchedRows.BOX);
        x.node(0, StretchedRows.ROW);
        x.node(5, StretchedRows.BOX);
        x.node(5, StretchedRows.BOX);
        x.node(0, StretchedRows.GRID);
        x.node(8, StretchedRows.BOX);
        x.node(8, StretchedRows.BOX);
        x.node(8, StretchedRows.BOX);
        x.track(8, true, 1);
        x.track(8, true, 1);
        x.layout(50);
        int[] due = {0, 0, 2, 0, 0, 1, 0, 0, 2, 0, 0, 0};
        for (int n = 0; n < due.length; n++) {
            Check.same("lines(" + n + ")", x.lines(n), due[n]);
        }
    }

    private static void keepsWhatWasLaidOut() {
        StretchedRows x = rowOf(5, 7);
        x.node(0, StretchedRows.TEXT);
        x.word(3, 30);
        x.word(3, 30);
        x.layout(60);
        x.set(1, StretchedRows.WIDE, 40);
        x.set(1, StretchedRows.HIGH, 90);
        x.set(2, StretchedRows.HIDDEN, 1);
        x.set(0, StretchedRows.PAD, 9);
        x.set(0, StretchedRows.WRAP, 1);
        x.word(3, 200);
        x.node(0, StretchedRows.BOX);
        x.natural(0);
        Check.box(x, 0, 0, 0, 60, 20);
        // 24 lack of 10, 10 and 64: 2, 2 and 18, and 1 more for the first two.
        Check.box(x, 1, 0, 0, 7, 20);
        Check.box(x, 2, 7, 0, 7, 20);
        Check.box(x, 3, 14, 0, 46, 20);
        Check.same("lines of the text", x.lines(3), 2);
        Check.same("lines of the row", x.lines(0), 1);
        Check.same("at finds the hidden one", x.at(8, 3), 2);
        Check.notLaidOut(x, 4);
        x.layout(60);
        Check.notLaidOut(x, 2);
        Check.same("lines of the text then", x.lines(3), 3);
        Check.same("lines of the row then", x.lines(0), 3);
    }

    private static void atEdges() {
        StretchedRows x = rowOf(8);
        x.set(0, StretchedRows.PAD, 2);
        x.layout(20);
        Check.box(x, 1, 2, 2, 10, 8);
        int[][] places = {
            {2, 2, 1}, {11, 9, 1}, {1, 2, 0}, {2, 1, 0}, {12, 9, 0}, {11, 10, 0}, {0, 0, 0}, {19, 11, 0},
            {20, 11, -1}, {19, 12, -1}, {-1, 0, -1}, {0, -1, -1},
            {Integer.MAX_VALUE, 0, -1}, {0, Integer.MAX_VALUE, -1}, {Integer.MIN_VALUE, 0, -1}, {0, Integer.MIN_VALUE, -1}
        };
        for (int[] place : places) {
            Check.same("at(" + place[0] + ", " + place[1] + ")", x.at(place[0], place[1]), place[2]);
        }
        x.layout(0);
        Check.same("a root without width has no place", x.at(0, 0), StretchedRows.NONE);
    }

    private static void atTakesTheLastChild() {
        StretchedRows x = new StretchedRows();
        x.node(StretchedRows.NONE, StretchedRows.GRID);
        x.track(0, false, 10);
        x.track(0, false, 10);
        for (int n = 1; n <= 2; n++) {
            x.node(0, StretchedRows.BOX);
            x.set(n, StretchedRows.HIGH, 10);
            x.set(n, StretchedRows.LEAST, 20);
        }
        x.layout(40);
        Check.same("the first alone", x.at(9, 5), 1);
        Check.same("both: the last", x.at(10, 5), 2);
        x.remove(2);
        Check.same("the last was taken away", x.at(10, 5), 1);
        Check.same("none but the root", x.at(20, 5), 0);
    }

    private static void atGoesDown() {
        StretchedRows x = new StretchedRows();
        x.node(StretchedRows.NONE, StretchedRows.COLUMN);
        for (int n = 1; n < 8; n++) {
            x.node(n - 1, StretchedRows.COLUMN);
        }
        for (int n = 0; n < 8; n++) {
            x.set(n, StretchedRows.PAD, 1);
        }
        x.layout(100);
        for (int n = 0; n < 8; n++) {
            Check.same("at(" + n + ", " + n + ")", x.at(n, n), n);
        }
        // What sticks out of its parent is not found there.
        x.set(1, StretchedRows.MOST, 10);
        x.set(2, StretchedRows.LEAST, 50);
        x.layout(100);
        Check.same("within", x.at(10, 2), 2);
        Check.same("beside its parent", x.at(11, 2), 0);
    }

    private static void atKeepsTheOrderLaidOut() {
        StretchedRows x = new StretchedRows();
        x.node(StretchedRows.NONE, StretchedRows.GRID);
        x.track(0, false, 0);
        x.track(0, false, 0);
        for (int n = 1; n <= 2; n++) {
            x.node(0, StretchedRows.BOX);
            x.set(n, StretchedRows.HIGH, 10);
            x.set(n, StretchedRows.LEAST, 20);
        }
        x.set(1, StretchedRows.ORDER, 1);
        x.layout(40);
        Check.same("the last by ORDER", x.at(5, 5), 1);
        x.set(1, StretchedRows.ORDER, -1);
        x.natural(0);
        Check.same("ORDER as it was laid out", x.at(5, 5), 1);
        x.layout(40);
        Check.same("ORDER as it is laid out then", x.at(5, 5), 2);
    }
}
