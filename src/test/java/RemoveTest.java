/** Promise 3: remove. */
public final class RemoveTest {
    public static void main(String[] args) {
        countsAllInside();
        refusesWhatIsNotThere();
        leavesTheRest();
        takesAwayFromTheLayout();
        Check.end("RemoveTest");
    }

    /** 0 holds 1, 2 and 6; 2 holds 3 and 5; 3 holds 4. */
    private static StretchedRows tree() {
        StretchedRows x = new StretchedRows();
        x.node(StretchedRows.NONE, StretchedRows.COLUMN);
        x.node(0, StretchedRows.BOX);
        x.node(0, StretchedRows.ROW);
        x.node(2, StretchedRows.GRID);
        x.node(3, StretchedRows.TEXT);
        x.node(2, StretchedRows.BOX);
        x.node(0, StretchedRows.BOX);
        return x;
    }

    private static void countsAllInside() {
        Check.same("a box", tree().remove(1), 1);
        Check.same("a grid with a text", tree().remove(3), 2);
        Check.same("a row with all in it", tree().remove(2), 4);
        Check.same("the root", tree().remove(0), 7);
        StretchedRows x = tree();
        x.set(3, StretchedRows.HIDDEN, 1);
        Check.same("what is hidden counts", x.remove(2), 4);
    }

    private static void refusesWhatIsNotThere() {
        StretchedRows x = tree();
        for (int n : new int[] {StretchedRows.NONE, 7, 200, Integer.MIN_VALUE, Integer.MAX_VALUE}) {
            Check.badArgument("remove(" + n + ")", () -> x.remove(n));
        }
        x.remove(2);
        for (int n = 2; n <= 5; n++) {
            int gone = n;
            Check.badArgument("remove(" + n + ") again", () -> x.remove(gone));
        }
        Check.same("nodes()", x.nodes(), 3);
    }

    private static void leavesTheRest() {
        StretchedRows x = tree();
        x.set(1, StretchedRows.WIDE, 11);
        x.set(6, StretchedRows.WIDE, 66);
        x.remove(2);
        Check.same("natural(1)", x.natural(1), 11);
        Check.same("natural(6)", x.natural(6), 66);
        Check.same("natural(0)", x.natural(0), 66);
        x.remove(6);
        Check.same("natural(0) without 6", x.natural(0), 11);
    }

    private static void takesAwayFromTheLayout() {
        StretchedRows x = tree();
        x.set(0, StretchedRows.GAP, 5);
        for (int n : new int[] {1, 5, 6}) {
            x.set(n, StretchedRows.HIGH, 10);
        }
        Check.same("layout(50)", x.layout(50), 40);
        x.remove(2);
        for (int n = 2; n <= 5; n++) {
            Check.notLaidOut(x, n);
        }
        Check.box(x, 0, 0, 0, 50, 40);
        Check.box(x, 6, 0, 30, 50, 10);
        Check.same("at the place of what was taken away", x.at(0, 16), 0);
        Check.same("layout(50) again", x.layout(50), 25);
        Check.box(x, 6, 0, 15, 50, 10);
        x.remove(0);
        Check.notLaidOut(x, 0);
        Check.same("at without a root", x.at(0, 0), StretchedRows.NONE);
        x.node(StretchedRows.NONE, StretchedRows.BOX);
        Check.notLaidOut(x, 7);
        Check.same("at before the new root is laid out", x.at(0, 0), StretchedRows.NONE);
    }
}
