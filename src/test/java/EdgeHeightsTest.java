/** HEIGHTS, sentence by sentence. */
public final class EdgeHeightsTest extends Scene {
    public static void main(String[] args) {
        boxes();
        wordThatJustFits();
        firstWordOfALine();
        withoutWords();
        textOfItsOwnWidth();
        columns();
        rowsWithoutChildren();
        gridsWithoutChildren();
        greatestOfALine();
        gapsBetweenLines();
        linesOfNoHeight();
        Check.end("EdgeHeightsTest");
    }

    /** "BOX: HIGH" */
    private static void boxes() {
        StretchedRows x = holding(BOX);
        height("HIGH at first", x, 100, 0);
        x.set(0, HIGH, 1);
        height("HIGH 1", x, 0, 1);
        x.set(0, HIGH, 500);
        height("HIGH 500", x, 1000, 500);
    }

    /** "a word begins a new line if .. the words in it, the word, and 4 between each two would be more than w" */
    private static void wordThatJustFits() {
        StretchedRows two = text(10, 20);
        height("just as wide", two, 34, 10);
        height("one too wide", two, 33, 20);
        StretchedRows three = text(10, 20, 30);
        height("three just as wide", three, 68, 10);
        height("the third is one too wide", three, 67, 20);
        height("two just as wide, then one", three, 34, 20);
        height("the second is one too wide, with the third one too wide", three, 33, 30);
        StretchedRows back = text(30, 20, 10);
        height("one, then two just as wide", back, 34, 20);
        height("one, one, one", back, 33, 30);
        height("two just as wide, then one", back, 54, 20);
        height("one, then two", back, 53, 20);
        StretchedRows longest = text(200, 200, 200, 200, 200, 200, 200, 200, 200, 200, 200, 200);
        height("12 words, four in a line", longest, 812, 30);
        height("12 words, three in a line", longest, 811, 40);
        height("12 words, one in a line", longest, 0, 120);
        StretchedRows least = text(1, 1, 1, 1, 1, 1, 1, 1, 1, 1, 1, 1);
        height("12 least words, just as wide", least, 56, 10);
        height("12 least words, the last one too wide", least, 55, 20);
    }

    /** "if it is not the first one in its line" */
    private static void firstWordOfALine() {
        StretchedRows one = text(200);
        height("no line is empty before a word that is too wide", one, 199, 10);
        height("nor where there is no width", one, 0, 10);
        Check.same("lines", one.lines(0), 1);
        StretchedRows x = text(100, 1, 100);
        height("words that are too wide stand alone", x, 50, 30);
        height("what was too wide counts in its line", x, 104, 30);
        height("a least word behind it, just as wide", x, 105, 20);
        Check.same("lines", x.lines(0), 2);
    }

    /** "without words no line" */
    private static void withoutWords() {
        StretchedRows x = text();
        height("without words", x, 100, 0);
        Check.same("lines without words", x.lines(0), 0);
        x.word(0, 1);
        Check.same("lines as they were laid out", x.lines(0), 0);
        height("with one", x, 100, 10);
        Check.same("lines with one", x.lines(0), 1);
        StretchedRows row = holding(ROW, 10);
        row.node(0, TEXT);
        row.set(1, HIGH, 25);
        row.layout(100);
        Check.same("stretched, and still no line", row.lines(2), 0);
        Check.box(row, 2, 10, 0, 0, 25);
    }

    /** "TEXT of width w": of the width that it has, not of the one that it would like. */
    private static void textOfItsOwnWidth() {
        StretchedRows x = holding(COLUMN);
        x.node(0, TEXT);
        x.word(1, 30);
        x.word(1, 30);
        height("STRETCH, just as wide", x, 64, 10);
        height("STRETCH, one too narrow", x, 63, 20);
        x.set(1, ALIGN, START);
        height("at its HYPO it need not be broken", x, 10, 10);
        x.set(1, MOST, 63);
        height("but for its MOST", x, 100, 20);
        x.set(1, MOST, 1000);
        x.set(1, BASIS, 64);
        height("a BASIS that is just as wide", x, 10, 10);
        x.set(1, BASIS, 63);
        height("a BASIS that is one too narrow", x, 100, 20);
        x.set(1, LEAST, 64);
        height("but for its LEAST", x, 0, 10);
    }

    /** "COLUMN: the heights of its children, GAP between each two, and 2 * PAD" */
    private static void columns() {
        StretchedRows x = holding(COLUMN);
        height("without children", x, 100, 0);
        x.set(0, GAP, 50);
        height("without children, with GAP", x, 100, 0);
        x.set(0, PAD, 50);
        height("without children, with PAD", x, 0, 100);
        x.node(0, BOX);
        height("one of no height", x, 100, 100);
        x.set(1, HIGH, 7);
        height("one", x, 100, 107);
        x.node(0, BOX);
        height("two: one gap", x, 100, 157);
        x.node(0, BOX);
        x.set(3, HIGH, 500);
        height("three: two gaps", x, 100, 707);
        Check.same("a column has no lines", x.lines(0), 0);
        StretchedRows all = holding(COLUMN, new int[23]);
        all.set(0, GAP, 50);
        for (int n = 1; n <= 23; n++) {
            all.set(n, HIGH, 500);
        }
        height("23 of the greatest height", all, 100, 23 * 500 + 22 * 50);
    }

    /** "without children there is no line": a ROW, with WRAP and without */
    private static void rowsWithoutChildren() {
        for (int wrap = 0; wrap <= 1; wrap++) {
            StretchedRows x = holding(ROW);
            x.set(0, WRAP, wrap);
            height("without children, WRAP " + wrap, x, 100, 0);
            Check.same("lines", x.lines(0), 0);
            x.set(0, GAP, 50);
            x.set(0, PAD, 50);
            height("without children, with PAD, WRAP " + wrap, x, 0, 100);
            Check.same("lines", x.lines(0), 0);
            x.node(0, BOX);
            height("with one, WRAP " + wrap, x, 100, 100);
            Check.same("lines", x.lines(0), 1);
            x.remove(1);
            Check.same("lines as they were laid out", x.lines(0), 1);
            height("with none again, WRAP " + wrap, x, 100, 100);
            Check.same("lines", x.lines(0), 0);
        }
    }

    /** "without children there is no line": a GRID, with tracks and without */
    private static void gridsWithoutChildren() {
        StretchedRows x = holding(GRID);
        x.set(0, GAP, 50);
        x.set(0, PAD, 3);
        for (int tracks = 0; tracks <= 4; tracks++) {
            height(tracks + " tracks", x, 100, 6);
            Check.same("lines", x.lines(0), 0);
            if (tracks < 4) {
                x.track(0, tracks % 2 == 0, 20);
            }
        }
        x.node(0, BOX);
        height("one child", x, 100, 6);
        Check.same("lines", x.lines(0), 1);
    }

    /** "the heights of their lines (the greatest height of a child in each)" */
    private static void greatestOfALine() {
        StretchedRows row = holding(ROW, 30, 30, 30, 30);
        row.set(0, WRAP, 1);
        setAll(row, HIGH, 5, 9, 8, 2);
        height("a row of one line", row, 120, 9);
        height("a row of two lines", row, 60, 9 + 8);
        height("a row of four lines", row, 30, 5 + 9 + 8 + 2);
        StretchedRows grid = holding(GRID, 30, 30, 30, 30, 30);
        setAll(grid, HIGH, 5, 9, 8, 2, 1);
        height("a grid without tracks", grid, 120, 5 + 9 + 8 + 2 + 1);
        grid.track(0, true, 1);
        height("a grid of one track", grid, 120, 5 + 9 + 8 + 2 + 1);
        grid.track(0, true, 1);
        height("a grid of two tracks", grid, 120, 9 + 8 + 1);
        grid.track(0, true, 1);
        height("a grid of three tracks", grid, 120, 9 + 2);
        grid.track(0, true, 1);
        height("a grid of four tracks", grid, 120, 9 + 1);
    }

    /** "GAP between each two, and 2 * PAD" */
    private static void gapsBetweenLines() {
        StretchedRows row = holding(ROW, 30, 30, 30);
        setAll(row, HIGH, 5, 6, 7);
        row.set(0, WRAP, 1);
        row.set(0, GAP, 4);
        row.set(0, PAD, 2);
        height("one line: no gap", row, 102, 7 + 4);
        height("two lines: one gap", row, 101, 6 + 4 + 7 + 4);
        height("three lines: two gaps", row, 67, 5 + 4 + 6 + 4 + 7 + 4);
        StretchedRows grid = holding(GRID, 30, 30, 30);
        setAll(grid, HIGH, 5, 6, 7);
        grid.set(0, GAP, 4);
        grid.set(0, PAD, 2);
        height("a grid of three lines", grid, 50, 5 + 4 + 6 + 4 + 7 + 4);
        grid.track(0, true, 1);
        grid.track(0, true, 1);
        height("a grid of two lines", grid, 50, 6 + 4 + 7 + 4);
    }

    private static void linesOfNoHeight() {
        StretchedRows row = holding(ROW, 30, 30, 30);
        row.set(0, WRAP, 1);
        row.set(0, GAP, 4);
        height("three lines of no height have two gaps", row, 30, 8);
        Check.same("lines", row.lines(0), 3);
        StretchedRows grid = holding(GRID, 30, 30, 30);
        grid.set(0, GAP, 4);
        height("so in a grid", grid, 30, 8);
        StretchedRows column = holding(COLUMN, 30, 30, 30);
        column.set(0, GAP, 4);
        height("and so children in a column", column, 30, 8);
    }
}
