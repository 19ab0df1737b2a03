/** CHILDREN, CLAMP, the NATURAL width, and which track and line a child of a GRID is in. */
public final class EdgeTermsTest extends Scene {
    public static void main(String[] args) {
        hiddenOnesAreNoChildren();
        allHiddenIsAsWithout();
        childrenByOrder();
        equalOrdersByNumber();
        clampsAtTheBounds();
        leastMoreThanMost();
        naturalOfTexts();
        naturalOfColumns();
        naturalOfRows();
        naturalOfGrids();
        baseAndHypo();
        trackAndLineOfAChild();
        withoutTracks();
        theFirstTrackTakesThePlace();
        Check.end("EdgeTermsTest");
    }

    /** "The CHILDREN of a container are the nodes whose parent it is and that are not HIDDEN" */
    private static void hiddenOnesAreNoChildren() {
        StretchedRows row = holding(ROW, 10, 20, 30);
        row.set(0, GAP, 5);
        for (int n = 1; n <= 3; n++) {
            row.set(n, HIDDEN, 1);
            Check.same("a row without child " + n + ": one gap less", row.natural(0), 60 - 10 * n + 5);
            row.layout(100);
            Check.notLaidOut(row, n);
            row.set(n, HIDDEN, 0);
        }
        Check.same("a row with all again", row.natural(0), 70);
        StretchedRows column = holding(COLUMN, 10, 20, 30);
        setAll(column, HIGH, 1, 2, 4);
        column.set(0, GAP, 5);
        column.set(2, HIDDEN, 1);
        height("a column without child 2", column, 50, 1 + 5 + 4);
        Check.same("child 3 comes up", column.where(3, TOP), 6);
        StretchedRows grid = holding(GRID, 10, 20, 30);
        grid.track(0, false, 40);
        grid.track(0, false, 50);
        grid.set(1, HIDDEN, 1);
        grid.layout(100);
        Check.same("child 2 comes to the first track", grid.where(2, WIDTH), 40);
        Check.same("child 3 comes to the second track", grid.where(3, LEFT), 40);
        Check.same("all in one line", grid.lines(0), 1);
    }

    private static void allHiddenIsAsWithout() {
        for (int kind = COLUMN; kind <= GRID; kind++) {
            StretchedRows x = holding(kind, 10, 20);
            setAll(x, HIGH, 7, 8);
            setAll(x, HIDDEN, 1, 1);
            x.set(0, PAD, 3);
            x.set(0, GAP, 9);
            Check.same("natural of kind " + kind + " with hidden ones alone", x.natural(0), 6);
            height("the height of kind " + kind + " with hidden ones alone", x, 50, 6);
            Check.same("lines of kind " + kind + " with hidden ones alone", x.lines(0), 0);
            Check.same("at finds none of them", x.at(4, 4), 0);
        }
    }

    /** "by rising ORDER" */
    private static void childrenByOrder() {
        for (int kind = COLUMN; kind <= GRID; kind++) {
            int along = kind == ROW ? LEFT : TOP;
            StretchedRows x = holding(kind, 1, 1, 1, 1);
            setAll(x, HIGH, 1, 1, 1, 1);
            setAll(x, ORDER, 9, 0, -9, -1);
            laidOut("by ORDER in kind " + kind, x, 50, along, 3, 2, 0, 1);
            setAll(x, ORDER, -9, -8, 8, 9);
            laidOut("by ORDER as they were made, in kind " + kind, x, 50, along, 0, 1, 2, 3);
            setAll(x, ORDER, 4, 3, 2, 1);
            laidOut("by ORDER the other way round, in kind " + kind, x, 50, along, 3, 2, 1, 0);
        }
    }

    /** "of equal ones by rising number" */
    private static void equalOrdersByNumber() {
        for (int kind = COLUMN; kind <= GRID; kind++) {
            int along = kind == ROW ? LEFT : TOP;
            StretchedRows x = holding(kind, 1, 1, 1, 1);
            setAll(x, HIGH, 1, 1, 1, 1);
            setAll(x, ORDER, 5, 5, 5, 5);
            laidOut("all equal in kind " + kind, x, 50, along, 0, 1, 2, 3);
            setAll(x, ORDER, 1, -1, 1, -1);
            laidOut("two and two in kind " + kind, x, 50, along, 2, 0, 3, 1);
            setAll(x, ORDER, 0, 0, 0, -1);
            laidOut("the last goes first in kind " + kind, x, 50, along, 1, 2, 3, 0);
            x.set(4, ORDER, 0);
            laidOut("and back again in kind " + kind, x, 50, along, 0, 1, 2, 3);
        }
    }

    /** "what is more than its MOST becomes that, and then what is less than its LEAST becomes that" */
    private static void clampsAtTheBounds() {
        StretchedRows x = holding(ROW, 0);
        x.set(1, LEAST, 30);
        x.set(1, MOST, 60);
        int[][] basisAndHypo = {{0, 30}, {29, 30}, {30, 30}, {31, 31}, {59, 59}, {60, 60}, {61, 60}, {500, 60}};
        for (int[] pair : basisAndHypo) {
            x.set(1, BASIS, pair[0]);
            Check.same("30 .. 60, " + pair[0], x.natural(0), pair[1]);
        }
        x.set(1, LEAST, 60);
        for (int basis : new int[] {59, 60, 61}) {
            x.set(1, BASIS, basis);
            Check.same("60 .. 60, " + basis, x.natural(0), 60);
        }
        x.set(1, LEAST, 0);
        x.set(1, MOST, 0);
        Check.same("0 .. 0, 61", x.natural(0), 0);
    }

    /** CLAMP where LEAST is more than MOST: MOST first, "and then" LEAST. */
    private static void leastMoreThanMost() {
        StretchedRows hypo = holding(ROW, 0);
        hypo.set(1, LEAST, 50);
        hypo.set(1, MOST, 20);
        for (int basis : new int[] {0, 19, 20, 21, 35, 49, 50, 51, 500}) {
            hypo.set(1, BASIS, basis);
            Check.same("a HYPO of " + basis, hypo.natural(0), 50);
        }
        StretchedRows root = holding(BOX);
        root.set(0, LEAST, 50);
        root.set(0, MOST, 20);
        for (int width : new int[] {0, 20, 35, 50, 1000}) {
            root.layout(width);
            Check.same("a root in " + width, root.where(0, WIDTH), 50);
        }
        for (int kind = COLUMN; kind <= GRID; kind++) {
            StretchedRows x = holding(kind, 30);
            x.set(1, LEAST, 50);
            x.set(1, MOST, 20);
            x.set(1, GROW, 1);
            for (int width : new int[] {0, 20, 35, 50, 1000}) {
                laidOut("a child of kind " + kind, x, width, WIDTH, 50);
            }
        }
    }

    /** "TEXT: the widths of its words and 4 between each two" */
    private static void naturalOfTexts() {
        StretchedRows x = text();
        Check.same("without words", x.natural(0), 0);
        for (int words = 1; words <= 12; words++) {
            x.word(0, words);
            Check.same(words + " words", x.natural(0), words * (words + 1) / 2 + 4 * (words - 1));
        }
    }

    /** "COLUMN: the greatest HYPO of its children (0 without), and 2 * PAD" */
    private static void naturalOfColumns() {
        StretchedRows x = holding(COLUMN);
        Check.same("without children", x.natural(0), 0);
        x.set(0, PAD, 50);
        x.set(0, GAP, 50);
        Check.same("without children, with PAD", x.natural(0), 100);
        x.node(0, BOX);
        Check.same("with a child of 0", x.natural(0), 100);
        x.set(1, WIDE, 500);
        x.node(0, BOX);
        Check.same("with children of 500 and 0", x.natural(0), 600);
        x.set(2, LEAST, 500);
        x.set(1, MOST, 499);
        Check.same("with HYPOs of 499 and 500", x.natural(0), 600);
        x.remove(2);
        Check.same("with a HYPO of 499", x.natural(0), 599);
    }

    /** "ROW: the HYPOs of its children, GAP between each two, and 2 * PAD" */
    private static void naturalOfRows() {
        StretchedRows x = holding(ROW);
        Check.same("without children", x.natural(0), 0);
        x.set(0, GAP, 50);
        Check.same("without children, with GAP", x.natural(0), 0);
        x.set(0, PAD, 1);
        for (int n = 1; n <= 23; n++) {
            x.node(0, BOX);
            x.set(n, LEAST, 500);
            Check.same(n + " children", x.natural(0), 500 * n + 50 * (n - 1) + 2);
        }
        x.set(0, WRAP, 1);
        Check.same("23 children, with WRAP", x.natural(0), 500 * 23 + 50 * 22 + 2);
    }

    /** "a FIXED track counts its number, a SHARE the greatest HYPO of the children in it (0 without)" */
    private static void naturalOfGrids() {
        StretchedRows x = holding(GRID);
        x.set(0, GAP, 7);
        Check.same("without tracks and children", x.natural(0), 0);
        x.track(0, true, 200);
        Check.same("a share without children", x.natural(0), 0);
        x.track(0, false, 30);
        Check.same("a fixed one beside it", x.natural(0), 37);
        x.track(0, true, 0);
        x.track(0, true, 1);
        Check.same("four tracks, three gaps", x.natural(0), 30 + 21);
        x.node(0, BOX);
        x.set(1, WIDE, 11);
        Check.same("a child in the first", x.natural(0), 11 + 30 + 21);
        x.node(0, BOX);
        x.set(2, WIDE, 500);
        Check.same("a child in the fixed one counts nothing", x.natural(0), 11 + 30 + 21);
        x.node(0, BOX);
        x.set(3, WIDE, 13);
        Check.same("a child in a share with the number 0 counts", x.natural(0), 11 + 30 + 13 + 21);
        for (int n = 4; n <= 5; n++) {
            x.node(0, BOX);
        }
        x.set(5, WIDE, 10);
        Check.same("a narrower one in the second line", x.natural(0), 11 + 30 + 13 + 21);
        x.set(5, WIDE, 12);
        Check.same("a wider one in the second line", x.natural(0), 12 + 30 + 13 + 21);
        x.set(5, MOST, 5);
        Check.same("by its HYPO", x.natural(0), 11 + 30 + 13 + 21);
    }

    /** "The BASE of a node is its BASIS, or its natural width if that is -1; its HYPO is the base, clamped." */
    private static void baseAndHypo() {
        StretchedRows x = holding(ROW, 40);
        Check.same("BASIS -1", x.natural(0), 40);
        x.set(1, BASIS, 0);
        Check.same("BASIS 0", x.natural(0), 0);
        x.set(1, BASIS, 41);
        Check.same("BASIS 41", x.natural(0), 41);
        Check.same("the natural width is not the base", x.natural(1), 40);
        x.set(1, MOST, 39);
        Check.same("clamped", x.natural(0), 39);
        Check.same("the natural width is not the HYPO", x.natural(1), 40);
        x.set(1, BASIS, -1);
        Check.same("BASIS -1 again, clamped", x.natural(0), 39);
        StretchedRows nested = holding(ROW);
        nested.node(0, COLUMN);
        nested.node(1, BOX);
        nested.set(2, WIDE, 60);
        nested.set(1, MOST, 50);
        Check.same("a column of its own natural width", nested.natural(1), 60);
        Check.same("in a row by its HYPO", nested.natural(0), 50);
    }

    /** "child k (from 0) is in track k modulo t, in line k / t" */
    private static void trackAndLineOfAChild() {
        for (int t = 1; t <= 4; t++) {
            for (int children = 1; children <= 9; children++) {
                StretchedRows x = holding(GRID, new int[children]);
                int[] lefts = new int[children];
                int[] tops = new int[children];
                for (int i = 0; i < t; i++) {
                    x.track(0, false, 10);
                }
                for (int k = 0; k < children; k++) {
                    x.set(k + 1, HIGH, 1);
                    lefts[k] = 10 * (k % t);
                    tops[k] = k / t;
                }
                String name = children + " children, " + t + " tracks";
                laidOut(name, x, 100, LEFT, lefts);
                seen(name, x, TOP, tops);
                Check.same(name + ": lines", x.lines(0), (children - 1) / t + 1);
            }
        }
    }

    /** "(Without tracks it is as with one track, a SHARE with the number 1.)" */
    private static void withoutTracks() {
        for (int children = 0; children <= 3; children++) {
            StretchedRows without = holding(GRID, 5, 40, 20);
            StretchedRows with = holding(GRID, 5, 40, 20);
            with.track(0, true, 1);
            for (StretchedRows x : new StretchedRows[] {without, with}) {
                setAll(x, HIGH, 3, 4, 5);
                setAll(x, HIDDEN, children < 1 ? 1 : 0, children < 2 ? 1 : 0, children < 3 ? 1 : 0);
                x.set(0, GAP, 6);
                x.set(0, PAD, 2);
            }
            Check.same("natural with " + children, without.natural(0), children == 0 ? 4 : children == 1 ? 9 : 44);
            Check.same("natural with one share", with.natural(0), without.natural(0));
            int[] heights = {4, 7, 17, 28};
            for (int width : new int[] {0, 4, 5, 100}) {
                height("with " + children, without, width, heights[children]);
                height("with one share", with, width, heights[children]);
                Check.same("lines with " + children, without.lines(0), children);
                for (int n = 1; n <= children; n++) {
                    Check.same("the share has all", without.where(n, WIDTH), Math.max(0, width - 4));
                    Check.same("and begins at PAD", without.where(n, LEFT), 2);
                    Check.same("as with one share", with.where(n, TOP), without.where(n, TOP));
                }
            }
        }
    }

    private static void theFirstTrackTakesThePlace() {
        StretchedRows x = holding(GRID, 5, 40);
        laidOut("without tracks", x, 100, WIDTH, 100, 100);
        Check.same("the first track", x.track(0, false, 30), 1);
        laidOut("one that is fixed", x, 100, WIDTH, 30, 30);
        Check.same("natural(0)", x.natural(0), 30);
        StretchedRows zero = holding(GRID, 5, 40);
        zero.track(0, true, 0);
        laidOut("one share with the number 0", zero, 100, WIDTH, 0, 0);
        Check.same("its natural width is its children's", zero.natural(0), 40);
    }
}
