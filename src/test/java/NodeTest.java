/** Promise 2: node. */
public final class NodeTest {
    public static void main(String[] args) {
        numbersRise();
        refusesWrongKinds();
        refusesWrongParents();
        holds24();
        makes200();
        nests8();
        argumentsBeforeState();
        Check.end("NodeTest");
    }

    private static void numbersRise() {
        StretchedRows x = new StretchedRows();
        Check.same("the root", x.node(StretchedRows.NONE, StretchedRows.GRID), 0);
        for (int kind = StretchedRows.BOX; kind <= StretchedRows.GRID; kind++) {
            Check.same("kind " + kind, x.node(0, kind), kind + 1);
        }
        x.remove(5);
        Check.same("a number is never given again", x.node(0, StretchedRows.BOX), 6);
        x.remove(0);
        Check.same("nor with a new root", x.node(StretchedRows.NONE, StretchedRows.BOX), 7);
    }

    private static void refusesWrongKinds() {
        StretchedRows x = new StretchedRows();
        for (int kind : new int[] {-1, 5, Integer.MIN_VALUE, Integer.MAX_VALUE}) {
            Check.badArgument("root of kind " + kind, () -> x.node(StretchedRows.NONE, kind));
        }
        x.node(StretchedRows.NONE, StretchedRows.ROW);
        for (int kind : new int[] {-1, 5, Integer.MIN_VALUE, Integer.MAX_VALUE}) {
            Check.badArgument("child of kind " + kind, () -> x.node(0, kind));
        }
        Check.same("nothing was made of those", x.node(0, StretchedRows.BOX), 1);
    }

    private static void refusesWrongParents() {
        StretchedRows x = new StretchedRows();
        Check.badArgument("no node is there: 0", () -> x.node(0, StretchedRows.BOX));
        Check.badArgument("no node is there: -2", () -> x.node(-2, StretchedRows.BOX));
        x.node(StretchedRows.NONE, StretchedRows.COLUMN);
        x.node(0, StretchedRows.BOX);
        x.node(0, StretchedRows.TEXT);
        x.node(0, StretchedRows.ROW);
        x.remove(3);
        for (int parent : new int[] {StretchedRows.NONE, -2, 1, 2, 3, 4, Integer.MIN_VALUE, Integer.MAX_VALUE}) {
            Check.badArgument("parent " + parent, () -> x.node(parent, StretchedRows.BOX));
        }
        x.remove(0);
        Check.badArgument("the root that was", () -> x.node(0, StretchedRows.BOX));
        Check.same("a root again", x.node(StretchedRows.NONE, StretchedRows.BOX), 4);
        Check.badArgument("a root beside a root that is a box", () -> x.node(StretchedRows.NONE, StretchedRows.BOX));
    }

    private static void holds24() {
        StretchedRows x = new StretchedRows();
        x.node(StretchedRows.NONE, StretchedRows.COLUMN);
        for (int n = 1; n < 24; n++) {
            Check.same("node " + n, x.node(0, StretchedRows.BOX), n);
        }
        Check.badState("the 25th", () -> x.node(0, StretchedRows.BOX));
        Check.same("nodes()", x.nodes(), 24);
        x.remove(5);
        Check.same("there is room for one again", x.node(0, StretchedRows.BOX), 24);
        Check.badState("and not for two", () -> x.node(0, StretchedRows.BOX));
    }

    private static void makes200() {
        StretchedRows x = new StretchedRows();
        x.node(StretchedRows.NONE, StretchedRows.COLUMN);
        for (int n = 1; n < 199; n++) {
            x.node(0, StretchedRows.BOX);
            x.remove(n);
        }
        Check.same("the 200th", x.node(0, StretchedRows.BOX), 199);
        Check.badState("the 201st", () -> x.node(0, StretchedRows.BOX));
        x.remove(0);
        Check.badState("the 201st as a root", () -> x.node(StretchedRows.NONE, StretchedRows.BOX));
        Check.same("nodes()", x.nodes(), 0);
    }

    private static void nests8() {
        StretchedRows x = new StretchedRows();
        x.node(StretchedRows.NONE, StretchedRows.COLUMN);
        for (int n = 1; n < 8; n++) {
            x.node(n - 1, StretchedRows.COLUMN);
        }
        Check.badState("the ninth", () -> x.node(7, StretchedRows.BOX));
        Check.same("one more eighth", x.node(6, StretchedRows.ROW), 8);
        Check.badState("the ninth in that", () -> x.node(8, StretchedRows.COLUMN));
    }

    private static void argumentsBeforeState() {
        StretchedRows x = new StretchedRows();
        x.node(StretchedRows.NONE, StretchedRows.COLUMN);
        for (int n = 1; n < 24; n++) {
            x.node(0, StretchedRows.BOX);
        }
        Check.badArgument("a wrong kind where there is no room", () -> x.node(0, 5));
        Check.badArgument("a wrong parent where there is no room", () -> x.node(1, StretchedRows.BOX));
    }
}
