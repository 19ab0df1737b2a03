/** "What throws changes nothing": every call that the document refuses, and all that can be seen before and after. */
public final class ThrowsTest {
    public static void main(String[] args) {
        wrongArguments();
        wrongStates();
        Check.end("ThrowsTest");
    }

    /** 0 a row of 1 a text, 2 a grid with 3 a box, and 4 a column with 5 a box; laid out, then changed. */
    private static StretchedRows some() {
        StretchedRows x = new StretchedRows();
        x.node(StretchedRows.NONE, StretchedRows.ROW);
        x.node(0, StretchedRows.TEXT);
        x.word(1, 30);
        x.word(1, 20);
        x.node(0, StretchedRows.GRID);
        x.track(2, true, 1);
        x.node(2, StretchedRows.BOX);
        x.set(3, StretchedRows.WIDE, 25);
        x.set(3, StretchedRows.HIGH, 12);
        x.node(0, StretchedRows.COLUMN);
        x.node(4, StretchedRows.BOX);
        x.set(5, StretchedRows.WIDE, 9);
        x.layout(70);
        x.set(5, StretchedRows.WIDE, 14);
        x.set(1, StretchedRows.ORDER, 3);
        return x;
    }

    /** All that can be seen, then what one more layout and one more node make of what can't. */
    private static String seen(StretchedRows x, int width) {
        StringBuilder all = new StringBuilder(look(x));
        try {
            all.append("layout ").append(x.layout(width)).append('\n').append(look(x));
        } catch (IllegalStateException e) {
            all.append("no layout\n");
        }
        return all.toString();
    }

    private static String look(StretchedRows x) {
        StringBuilder all = new StringBuilder("nodes " + x.nodes() + "\n");
        for (int n = 0; n < 26; n++) {
            all.append(n).append(':');
            try {
                all.append(" natural ").append(x.natural(n));
                all.append(" lines ").append(x.lines(n)).append(" where");
                for (int what = 0; what < 4; what++) {
                    all.append(' ').append(x.where(n, what));
                }
            } catch (IllegalArgumentException e) {
                all.append(" no more");
            }
            all.append('\n');
        }
        for (int place = 0; place < 80; place += 3) {
            all.append(x.at(place, 5)).append(' ');
        }
        return all.append('\n').toString();
    }

    private static void wrongArguments() {
        StretchedRows x = some();
        Check.badArgument("node: kind", () -> x.node(0, 5));
        Check.badArgument("node: parent", () -> x.node(3, StretchedRows.BOX));
        Check.badArgument("node: a second root", () -> x.node(StretchedRows.NONE, StretchedRows.BOX));
        Check.badArgument("remove", () -> x.remove(6));
        Check.badArgument("set: node", () -> x.set(6, StretchedRows.WIDE, 1));
        Check.badArgument("set: number", () -> x.set(0, 14, 1));
        Check.badArgument("set: value", () -> x.set(5, StretchedRows.WIDE, 501));
        Check.badArgument("word: node", () -> x.word(3, 5));
        Check.badArgument("word: width", () -> x.word(1, 201));
        Check.badArgument("track: node", () -> x.track(4, true, 5));
        Check.badArgument("track: number", () -> x.track(2, true, -1));
        Check.badArgument("layout: width", () -> x.layout(1001));
        Check.badArgument("where: node", () -> x.where(6, 0));
        Check.badArgument("where: what", () -> x.where(0, 4));
        Check.badArgument("lines", () -> x.lines(6));
        Check.badArgument("natural", () -> x.natural(6));
        Check.same("all that can be seen", seen(x, 60), seen(some(), 60));
        Check.same("the next node", x.node(0, StretchedRows.BOX), 6);
    }

    private static void wrongStates() {
        StretchedRows x = full();
        Check.badState("word", () -> x.word(1, 5));
        Check.badState("track", () -> x.track(2, true, 5));
        Check.badState("node: 24 are there", () -> x.node(0, StretchedRows.BOX));
        Check.same("all that can be seen when full", seen(x, 60), seen(full(), 60));
        StretchedRows hidden = some();
        hidden.set(0, StretchedRows.HIDDEN, 1);
        Check.badState("layout: the root is hidden", () -> hidden.layout(33));
        hidden.set(0, StretchedRows.HIDDEN, 0);
        Check.same("all that can be seen of the hidden one", seen(hidden, 60), seen(some(), 60));
        StretchedRows deep = deep();
        Check.badState("node: the ninth", () -> deep.node(7, StretchedRows.BOX));
        Check.same("all that can be seen of the deep one", seen(deep, 60), seen(deep(), 60));
        Check.same("the next node", deep.node(6, StretchedRows.BOX), 8);
        StretchedRows last = allMade();
        Check.badState("node: 200 were made", () -> last.node(198, StretchedRows.BOX));
        Check.same("all that can be seen of the last ones", seen(last, 60), seen(allMade(), 60));
        StretchedRows none = new StretchedRows();
        Check.badState("layout: no node is there", () -> none.layout(10));
        Check.same("all that can be seen of nothing", seen(none, 60), seen(new StretchedRows(), 60));
    }

    /** 200 were made, 198 and 199 are there; seen() does not look at these, but at their number, their height and at(). */
    private static StretchedRows allMade() {
        StretchedRows x = new StretchedRows();
        for (int n = 0; n < 198; n++) {
            x.node(StretchedRows.NONE, StretchedRows.ROW);
            x.remove(n);
        }
        x.node(StretchedRows.NONE, StretchedRows.ROW);
        x.node(198, StretchedRows.BOX);
        x.set(199, StretchedRows.WIDE, 10);
        x.set(199, StretchedRows.HIGH, 20);
        x.layout(50);
        return x;
    }

    private static StretchedRows full() {
        StretchedRows x = some();
        for (int k = 2; k < 12; k++) {
            x.word(1, 10 + k);
        }
        for (int k = 1; k < 4; k++) {
            x.track(2, k == 2, 3 * k);
        }
        for (int n = 6; n < 24; n++) {
            x.node(2, StretchedRows.BOX);
        }
        return x;
    }

    private static StretchedRows deep() {
        StretchedRows x = new StretchedRows();
        x.node(StretchedRows.NONE, StretchedRows.COLUMN);
        for (int n = 1; n < 8; n++) {
            x.node(n - 1, StretchedRows.ROW);
            x.set(n, StretchedRows.PAD, 1);
        }
        x.layout(50);
        return x;
    }
}
