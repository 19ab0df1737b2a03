import java.util.Arrays;

/** What the edge tests build their objects with, and look at them by; the constants by their short names. */
abstract class Scene {
    static final int NONE = StretchedRows.NONE;
    static final int BOX = StretchedRows.BOX, TEXT = StretchedRows.TEXT, COLUMN = StretchedRows.COLUMN,
        ROW = StretchedRows.ROW, GRID = StretchedRows.GRID;
    static final int GROW = StretchedRows.GROW, SHRINK = StretchedRows.SHRINK, BASIS = StretchedRows.BASIS,
        LEAST = StretchedRows.LEAST, MOST = StretchedRows.MOST, ALIGN = StretchedRows.ALIGN, ORDER = StretchedRows.ORDER,
        HIDDEN = StretchedRows.HIDDEN, WIDE = StretchedRows.WIDE, HIGH = StretchedRows.HIGH, GAP = StretchedRows.GAP,
        PAD = StretchedRows.PAD, JUSTIFY = StretchedRows.JUSTIFY, WRAP = StretchedRows.WRAP;
    static final int STRETCH = StretchedRows.STRETCH, START = StretchedRows.START, CENTRE = StretchedRows.CENTRE,
        END = StretchedRows.END, BETWEEN = StretchedRows.BETWEEN;
    static final int LEFT = 0, TOP = 1, WIDTH = 2, HEIGHT = 3;

    private static final String[] MEASURES = {"lefts", "tops", "widths", "heights"};

    /** A root of this kind, number 0, with boxes of these WIDEs in it, numbers 1, 2, .. */
    static StretchedRows holding(int kind, int... wides) {
        StretchedRows x = new StretchedRows();
        x.node(NONE, kind);
        for (int wide : wides) {
            x.set(x.node(0, BOX), WIDE, wide);
        }
        return x;
    }

    static StretchedRows text(int... words) {
        StretchedRows x = new StretchedRows();
        x.node(NONE, TEXT);
        for (int word : words) {
            x.word(0, word);
        }
        return x;
    }

    /** As many columns inside one another, each the only one in the one before. */
    static StretchedRows tower(int levels) {
        StretchedRows x = new StretchedRows();
        for (int n = 0; n < levels; n++) {
            x.node(n - 1, COLUMN);
        }
        return x;
    }

    /** A number of the nodes 1, 2, .. */
    static void setAll(StretchedRows x, int what, int... values) {
        for (int k = 0; k < values.length; k++) {
            x.set(k + 1, what, values[k]);
        }
    }

    /** Lays out and looks at one measure of the nodes 1, 2, .. */
    static void laidOut(String sentence, StretchedRows x, int width, int measure, int... due) {
        x.layout(width);
        seen(sentence + ", layout(" + width + ")", x, measure, due);
    }

    /** One measure of the nodes 1, 2, .. as they are laid out. */
    static void seen(String sentence, StretchedRows x, int measure, int... due) {
        int[] got = new int[due.length];
        for (int k = 0; k < due.length; k++) {
            got[k] = x.where(k + 1, measure);
        }
        Check.same(sentence + ": the " + MEASURES[measure], Arrays.toString(got), Arrays.toString(due));
    }

    static void height(String sentence, StretchedRows x, int width, int due) {
        Check.same(sentence + ", layout(" + width + ")", x.layout(width), due);
    }

    static void linesAt(String sentence, StretchedRows x, int width, int due) {
        x.layout(width);
        Check.same(sentence + ", layout(" + width + "): lines of the root", x.lines(0), due);
    }
}
