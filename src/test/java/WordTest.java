/** Promise 5: word, and how a text is broken into lines. */
public final class WordTest {
    public static void main(String[] args) {
        countsWords();
        refusesWrongInputs();
        breaksAtTheWidth();
        Check.end("WordTest");
    }

    private static StretchedRows text(int... words) {
        StretchedRows x = new StretchedRows();
        x.node(StretchedRows.NONE, StretchedRows.TEXT);
        for (int word : words) {
            x.word(0, word);
        }
        return x;
    }

    private static void countsWords() {
        StretchedRows x = text();
        for (int k = 1; k <= 12; k++) {
            Check.same("word " + k, x.word(0, k == 1 ? 1 : 200), k);
        }
        Check.same("natural(0)", x.natural(0), 1 + 11 * 200 + 11 * 4);
        Check.badState("the 13th", () -> x.word(0, 1));
        Check.badArgument("a wrong width where there is no room", () -> x.word(0, 0));
        Check.same("natural(0) after that", x.natural(0), 1 + 11 * 200 + 11 * 4);
    }

    private static void refusesWrongInputs() {
        StretchedRows x = new StretchedRows();
        x.node(StretchedRows.NONE, StretchedRows.COLUMN);
        for (int kind = StretchedRows.BOX; kind <= StretchedRows.GRID; kind++) {
            x.node(0, kind);
        }
        x.node(0, StretchedRows.TEXT);
        x.remove(6);
        for (int n : new int[] {StretchedRows.NONE, 0, 1, 3, 4, 5, 6, 7, Integer.MIN_VALUE, Integer.MAX_VALUE}) {
            Check.badArgument("word of node " + n, () -> x.word(n, 5));
        }
        for (int width : new int[] {-1, 0, 201, Integer.MIN_VALUE, Integer.MAX_VALUE}) {
            Check.badArgument("width " + width, () -> x.word(2, width));
        }
        Check.same("the first word", x.word(2, 200), 1);
    }

    private static void breaksAtTheWidth() {
        StretchedRows x = text(10, 20, 30, 5);
        int[][] widthAndLines = {{77, 1}, {76, 2}, {68, 2}, {67, 2}, {39, 2}, {38, 3}, {34, 3}, {33, 4}, {0, 4}, {1000, 1}};
        for (int[] row : widthAndLines) {
            Check.same("layout(" + row[0] + ")", x.layout(row[0]), 10L * row[1]);
            Check.same("lines at " + row[0], x.lines(0), row[1]);
        }
        StretchedRows none = text();
        Check.same("without words: the height", none.layout(100), 0);
        Check.same("without words: the lines", none.lines(0), 0);
        Check.same("without words: the natural width", none.natural(0), 0);
        StretchedRows one = text(200);
        Check.same("a word wider than all is alone in its line", one.layout(0), 10);
        StretchedRows padded = text(10, 10);
        padded.set(0, StretchedRows.PAD, 50);
        padded.set(0, StretchedRows.GAP, 50);
        Check.same("PAD and GAP do not matter in a text", padded.layout(24), 10);
        Check.same("nor for its natural width", padded.natural(0), 24);
    }
}
