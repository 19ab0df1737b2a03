/** Promise 1: a new object, and promise 12: nodes. */
public final class NewObjectTest {
    public static void main(String[] args) {
        hasNoNodes();
        countsNodes();
        objectsShareNothing();
        Check.end("NewObjectTest");
    }

    private static void hasNoNodes() {
        StretchedRows x = new StretchedRows();
        Check.same("nodes()", x.nodes(), 0);
        Check.same("at(0, 0)", x.at(0, 0), StretchedRows.NONE);
        Check.badState("layout(0)", () -> x.layout(0));
        for (int n : new int[] {StretchedRows.NONE, 0, 1, Integer.MIN_VALUE, Integer.MAX_VALUE}) {
            Check.badArgument("natural(" + n + ")", () -> x.natural(n));
            Check.badArgument("remove(" + n + ")", () -> x.remove(n));
            Check.badArgument("set(" + n + ")", () -> x.set(n, StretchedRows.GROW, 1));
            Check.badArgument("word(" + n + ")", () -> x.word(n, 1));
            Check.badArgument("track(" + n + ")", () -> x.track(n, true, 1));
            Check.notLaidOut(x, n);
        }
    }

    private static void countsNodes() {
        StretchedRows x = new StretchedRows();
        x.node(StretchedRows.NONE, StretchedRows.COLUMN);
        Check.same("nodes() with the root", x.nodes(), 1);
        x.node(0, StretchedRows.ROW);
        x.node(1, StretchedRows.BOX);
        x.set(1, StretchedRows.HIDDEN, 1);
        Check.same("nodes() counts what is hidden too", x.nodes(), 3);
        Check.badArgument("node in a box", () -> x.node(2, StretchedRows.BOX));
        Check.same("nodes() after a refused node", x.nodes(), 3);
        x.remove(1);
        Check.same("nodes() after remove", x.nodes(), 1);
        x.node(0, StretchedRows.TEXT);
        Check.same("nodes() after one more", x.nodes(), 2);
    }

    private static void objectsShareNothing() {
        StretchedRows one = new StretchedRows();
        StretchedRows other = new StretchedRows();
        one.node(StretchedRows.NONE, StretchedRows.BOX);
        one.set(0, StretchedRows.WIDE, 7);
        Check.same("nodes() of the other", other.nodes(), 0);
        Check.same("node of the other", other.node(StretchedRows.NONE, StretchedRows.BOX), 0);
        Check.same("natural of the other", other.natural(0), 0);
    }
}
