/** Promise 6: track, and how a grid is laid out. */
public final class TrackTest {
    public static void main(String[] args) {
        countsTracks();
        refusesWrongInputs();
        dealsOutShares();
        sharesOfNothing();
        withoutTracks();
        clampsChildren();
        stacksLines();
        naturalWidths();
        Check.end("TrackTest");
    }

    private static StretchedRows grid(int children) {
        StretchedRows x = new StretchedRows();
        x.node(StretchedRows.NONE, StretchedRows.GRID);
        for (int n = 1; n <= children; n++) {
            x.node(0, StretchedRows.BOX);
            x.set(n, StretchedRows.WIDE, 10 * n);
            x.set(n, StretchedRows.HIGH, n);
        }
        return x;
    }

    private static void countsTracks() {
        StretchedRows x = grid(0);
        Check.same("the first", x.track(0, false, 0), 1);
        Check.same("the second", x.track(0, true, 0), 2);
        Check.same("the third", x.track(0, false, 200), 3);
        Check.same("the fourth", x.track(0, true, 200), 4);
        Check.badState("the fifth", () -> x.track(0, true, 1));
        Check.badArgument("a wrong number where there is no room", () -> x.track(0, true, 201));
        Check.same("natural(0)", x.natural(0), 200);
    }

    private static void refusesWrongInputs() {
        StretchedRows x = new StretchedRows();
        x.node(StretchedRows.NONE, StretchedRows.COLUMN);
        for (int kind = StretchedRows.BOX; kind <= StretchedRows.GRID; kind++) {
            x.node(0, kind);
        }
        x.node(0, StretchedRows.GRID);
        x.remove(6);
        for (int n : new int[] {StretchedRows.NONE, 0, 1, 2, 3, 4, 6, 7, Integer.MIN_VALUE, Integer.MAX_VALUE}) {
            Check.badArgument("track of node " + n, () -> x.track(n, true, 1));
        }
        for (int number : new int[] {-1, 201, Integer.MIN_VALUE, Integer.MAX_VALUE}) {
            Check.badArgument("a share of " + number, () -> x.track(5, true, number));
            Check.badArgument("fixed at " + number, () -> x.track(5, false, number));
        }
        Check.same("the first track", x.track(5, true, 1), 1);
    }

    private static void dealsOutShares() {
        StretchedRows x = grid(4);
        x.track(0, true, 1);
        x.track(0, false, 20);
        x.track(0, true, 1);
        x.track(0, true, 1);
        x.set(0, StretchedRows.GAP, 3);
        x.set(0, StretchedRows.PAD, 5);
        // 100 - 10 - 20 - 9 = 61 for three equal shares: 21, 20, 20.
        x.layout(100);
        Check.box(x, 1, 5, 5, 21, 4);
        Check.box(x, 2, 29, 5, 20, 4);
        Check.box(x, 3, 52, 5, 20, 4);
        Check.box(x, 4, 75, 5, 20, 4);
        // 62: the first two get 1 more.
        x.layout(101);
        Check.box(x, 1, 5, 5, 21, 4);
        Check.box(x, 3, 52, 5, 21, 4);
        Check.box(x, 4, 76, 5, 20, 4);
        // 63 comes out even.
        x.layout(102);
        Check.box(x, 4, 76, 5, 21, 4);
    }

    private static void sharesOfNothing() {
        StretchedRows x = grid(4);
        x.track(0, true, 0);
        x.track(0, true, 3);
        x.track(0, true, 0);
        x.track(0, true, 4);
        // 100 * 3 / 7 = 42, 100 * 4 / 7 = 57: the one that is left goes to the first that is not 0.
        x.layout(100);
        Check.box(x, 1, 0, 0, 0, 4);
        Check.box(x, 2, 0, 0, 43, 4);
        Check.box(x, 3, 43, 0, 0, 4);
        Check.box(x, 4, 43, 0, 57, 4);

        StretchedRows all = grid(2);
        all.track(0, true, 0);
        all.track(0, true, 0);
        all.set(0, StretchedRows.GAP, 7);
        all.layout(100);
        Check.box(all, 1, 0, 0, 0, 2);
        Check.box(all, 2, 7, 0, 0, 2);

        StretchedRows tight = grid(3);
        tight.track(0, false, 60);
        tight.track(0, true, 1);
        tight.track(0, false, 60);
        tight.layout(100);
        Check.box(tight, 1, 0, 0, 60, 3);
        Check.box(tight, 2, 60, 0, 0, 3);
        Check.box(tight, 3, 60, 0, 60, 3);
    }

    private static void withoutTracks() {
        StretchedRows x = grid(3);
        x.set(0, StretchedRows.GAP, 5);
        x.set(0, StretchedRows.PAD, 2);
        Check.same("natural(0)", x.natural(0), 34);
        Check.same("layout(80)", x.layout(80), 1 + 2 + 3 + 10 + 4);
        Check.box(x, 1, 2, 2, 76, 1);
        Check.box(x, 2, 2, 8, 76, 2);
        Check.box(x, 3, 2, 15, 76, 3);
        Check.same("lines", x.lines(0), 3);
        x.track(0, false, 11);
        x.layout(80);
        Check.box(x, 3, 2, 15, 11, 3);
    }

    private static void clampsChildren() {
        StretchedRows x = grid(3);
        x.track(0, false, 50);
        x.track(0, true, 1);
        x.set(1, StretchedRows.MOST, 30);
        x.set(2, StretchedRows.LEAST, 70);
        x.set(3, StretchedRows.BASIS, 200);
        x.layout(100);
        Check.box(x, 1, 0, 0, 30, 2);
        Check.box(x, 2, 50, 0, 70, 2);
        Check.box(x, 3, 0, 2, 50, 3);
    }

    private static void stacksLines() {
        StretchedRows x = grid(5);
        x.track(0, true, 1);
        x.track(0, true, 1);
        x.set(0, StretchedRows.GAP, 4);
        x.set(1, StretchedRows.HIGH, 9);
        x.set(2, StretchedRows.ALIGN, StretchedRows.CENTRE);
        x.set(3, StretchedRows.ALIGN, StretchedRows.END);
        x.set(4, StretchedRows.HIGH, 12);
        x.set(5, StretchedRows.ALIGN, StretchedRows.START);
        Check.same("layout(44)", x.layout(44), 9 + 12 + 5 + 8);
        Check.same("lines", x.lines(0), 3);
        Check.box(x, 1, 0, 0, 20, 9);
        Check.box(x, 2, 24, 3, 20, 2);
        Check.box(x, 3, 0, 22, 20, 3);
        Check.box(x, 4, 24, 13, 20, 12);
        Check.box(x, 5, 0, 29, 20, 5);
        // Child 1 hidden and child 5 first: every other child comes to another track or line.
        x.set(1, StretchedRows.HIDDEN, 1);
        x.set(5, StretchedRows.ORDER, -1);
        Check.same("layout(44) of four", x.layout(44), 5 + 12 + 4);
        Check.box(x, 5, 0, 0, 20, 5);
        Check.box(x, 2, 24, 1, 20, 2);
        Check.box(x, 3, 0, 18, 20, 3);
        Check.box(x, 4, 24, 9, 20, 12);
    }

    private static void naturalWidths() {
        StretchedRows x = grid(3);
        x.track(0, true, 1);
        x.track(0, false, 7);
        x.set(0, StretchedRows.GAP, 2);
        x.set(0, StretchedRows.PAD, 1);
        Check.same("shares by their children, fixed by its number", x.natural(0), 30 + 7 + 2 + 2);
        x.set(3, StretchedRows.HIDDEN, 1);
        Check.same("without the hidden one", x.natural(0), 10 + 7 + 2 + 2);
        x.set(2, StretchedRows.ORDER, -1);
        Check.same("with the wider one first", x.natural(0), 20 + 7 + 2 + 2);
        x.set(2, StretchedRows.MOST, 15);
        Check.same("with it clamped", x.natural(0), 15 + 7 + 2 + 2);
        x.set(1, StretchedRows.HIDDEN, 1);
        x.set(2, StretchedRows.HIDDEN, 1);
        Check.same("without children", x.natural(0), 7 + 2 + 2);
        Check.same("the height without children", x.layout(50), 2);
        Check.same("the lines without children", x.lines(0), 0);
    }
}
