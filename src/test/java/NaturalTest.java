/** Promise 11: natural. */
public final class NaturalTest {
    public static void main(String[] args) {
        byKind();
        ofTexts();
        byHypo();
        asItIsNow();
        refusesWhatIsNotThere();
        Check.end("NaturalTest");
    }

    private static StretchedRows holding(int kind, int... wides) {
        StretchedRows x = new StretchedRows();
        x.node(StretchedRows.NONE, kind);
        for (int k = 0; k < wides.length; k++) {
            x.node(0, StretchedRows.BOX);
            x.set(k + 1, StretchedRows.WIDE, wides[k]);
        }
        x.set(0, StretchedRows.GAP, 7);
        x.set(0, StretchedRows.PAD, 3);
        return x;
    }

    private static void byKind() {
        Check.same("a box", holding(StretchedRows.COLUMN, 40).natural(1), 40);
        Check.same("a column", holding(StretchedRows.COLUMN, 10, 40, 20).natural(0), 46);
        Check.same("a column without children", holding(StretchedRows.COLUMN).natural(0), 6);
        Check.same("a row", holding(StretchedRows.ROW, 10, 40, 20).natural(0), 70 + 14 + 6);
        Check.same("a row of one", holding(StretchedRows.ROW, 10).natural(0), 16);
        Check.same("a row without children", holding(StretchedRows.ROW).natural(0), 6);
        Check.same("a grid", holding(StretchedRows.GRID, 10, 40, 20).natural(0), 46);
        Check.same("a grid without children", holding(StretchedRows.GRID).natural(0), 6);
        StretchedRows wrapped = holding(StretchedRows.ROW, 10, 40);
        wrapped.set(0, StretchedRows.WRAP, 1);
        wrapped.layout(20);
        Check.same("a row that wraps", wrapped.natural(0), 50 + 7 + 6);
    }

    private static void ofTexts() {
        StretchedRows x = holding(StretchedRows.COLUMN);
        x.node(0, StretchedRows.TEXT);
        Check.same("a text without words", x.natural(1), 0);
        x.word(1, 30);
        Check.same("a text of one word", x.natural(1), 30);
        x.word(1, 12);
        Check.same("a text of two words", x.natural(1), 46);
        x.word(1, 1);
        Check.same("a text of three words", x.natural(1), 51);
        x.layout(20);
        Check.same("a text that is broken into lines", x.natural(1), 51);
        Check.same("what holds it", x.natural(0), 57);
    }

    private static void byHypo() {
        StretchedRows column = holding(StretchedRows.COLUMN, 10, 40);
        column.set(2, StretchedRows.MOST, 30);
        Check.same("a column of clamped ones", column.natural(0), 36);
        StretchedRows x = holding(StretchedRows.ROW, 10, 40);
        x.set(1, StretchedRows.BASIS, 25);
        Check.same("a BASIS counts in the parent", x.natural(0), 65 + 7 + 6);
        Check.same("but not in the node", x.natural(1), 10);
        x.set(1, StretchedRows.BASIS, 0);
        Check.same("a BASIS of 0", x.natural(0), 40 + 7 + 6);
        x.set(1, StretchedRows.LEAST, 12);
        x.set(2, StretchedRows.MOST, 35);
        Check.same("clamped", x.natural(0), 47 + 7 + 6);
        Check.same("the node is not clamped", x.natural(2), 40);
        x.set(2, StretchedRows.LEAST, 38);
        Check.same("LEAST above MOST", x.natural(0), 50 + 7 + 6);
        x.set(0, StretchedRows.MOST, 20);
        x.set(0, StretchedRows.BASIS, 5);
        Check.same("its own bounds and BASIS do not matter", x.natural(0), 50 + 7 + 6);
    }

    private static void asItIsNow() {
        StretchedRows x = holding(StretchedRows.COLUMN, 10, 40);
        x.layout(100);
        x.set(2, StretchedRows.WIDE, 60);
        Check.same("after a change", x.natural(0), 66);
        x.set(2, StretchedRows.HIDDEN, 1);
        Check.same("without the hidden one", x.natural(0), 16);
        Check.same("of the hidden one", x.natural(2), 60);
        x.set(0, StretchedRows.HIDDEN, 1);
        Check.same("of a hidden root", x.natural(0), 16);
        x.remove(1);
        Check.same("after remove", x.natural(0), 6);
        x.node(0, StretchedRows.ROW);
        x.node(3, StretchedRows.BOX);
        x.set(4, StretchedRows.WIDE, 33);
        Check.same("of boxes in boxes", x.natural(0), 39);
        x.set(3, StretchedRows.HIDDEN, 1);
        Check.same("of a hidden row", x.natural(3), 33);
    }

    private static void refusesWhatIsNotThere() {
        StretchedRows x = holding(StretchedRows.COLUMN, 10, 40);
        x.remove(1);
        for (int n : new int[] {StretchedRows.NONE, 1, 3, Integer.MIN_VALUE, Integer.MAX_VALUE}) {
            Check.badArgument("natural(" + n + ")", () -> x.natural(n));
        }
    }
}
