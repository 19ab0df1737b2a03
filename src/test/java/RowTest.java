/** Promise 7: layout of rows. */
public final class RowTest {
    public static void main(String[] args) {
        grows();
        growsWithinBounds();
        settlesByTheSum();
        settlesAtOnce();
        settlesByOne();
        shrinks();
        shrinksWithinBounds();
        shrinksToNothing();
        dealsOutMoreThanAnIntHolds();
        wraps();
        justifies();
        alignsInLines();
        ordersAndHides();
        isEmpty();
        Check.end("RowTest");
    }

    /** A row of boxes with these BASISes. */
    private static StretchedRows row(int... bases) {
        StretchedRows x = new StretchedRows();
        x.node(StretchedRows.NONE, StretchedRows.ROW);
        for (int k = 0; k < bases.length; k++) {
            x.node(0, StretchedRows.BOX);
            x.set(k + 1, StretchedRows.BASIS, bases[k]);
        }
        return x;
    }

    private static void setAll(StretchedRows x, int what, int... values) {
        for (int k = 0; k < values.length; k++) {
            x.set(k + 1, what, values[k]);
        }
    }

    private static void widths(String name, StretchedRows x, int width, int... due) {
        x.layout(width);
        for (int k = 0; k < due.length; k++) {
            Check.same(name + ", layout(" + width + "): width of " + (k + 1), x.where(k + 1, 2), due[k]);
        }
    }

    private static void lefts(String name, StretchedRows x, int width, int... due) {
        x.layout(width);
        for (int k = 0; k < due.length; k++) {
            Check.same(name + ", layout(" + width + "): left of " + (k + 1), x.where(k + 1, 0), due[k]);
        }
    }

    private static void grows() {
        StretchedRows x = row(10, 10, 10);
        widths("no GROW", x, 100, 10, 10, 10);
        setAll(x, StretchedRows.GROW, 1, 1, 1);
        widths("equal", x, 100, 34, 33, 33);
        widths("equal", x, 101, 34, 34, 33);
        widths("equal", x, 102, 34, 34, 34);
        widths("nothing to deal out", x, 30, 10, 10, 10);
        widths("one to deal out", x, 31, 11, 10, 10);
        setAll(x, StretchedRows.GROW, 1, 2, 4);
        widths("1, 2, 4", x, 100, 20, 30, 50);
        widths("1, 2, 4", x, 102, 21, 30, 51);
        setAll(x, StretchedRows.GROW, 0, 9, 9);
        widths("the first has none", x, 101, 10, 46, 45);
        x.set(0, StretchedRows.GAP, 5);
        x.set(0, StretchedRows.PAD, 10);
        widths("gaps and pads", x, 131, 10, 46, 45);
    }

    private static void growsWithinBounds() {
        StretchedRows x = row(10, 10, 10);
        setAll(x, StretchedRows.GROW, 1, 1, 1);
        x.set(1, StretchedRows.MOST, 20);
        widths("the first has its MOST", x, 100, 20, 40, 40);
        x.set(1, StretchedRows.MOST, 1000);
        x.set(1, StretchedRows.LEAST, 50);
        widths("the first has its LEAST", x, 100, 50, 25, 25);
        StretchedRows over = row(60, 10, 10);
        setAll(over, StretchedRows.GROW, 1, 1, 1);
        over.set(1, StretchedRows.MOST, 20);
        widths("a base above HYPO is settled at once", over, 100, 20, 40, 40);
        StretchedRows crossed = row(10, 10);
        setAll(crossed, StretchedRows.GROW, 1, 1);
        crossed.set(1, StretchedRows.MOST, 20);
        crossed.set(1, StretchedRows.LEAST, 30);
        widths("LEAST is above MOST", crossed, 100, 30, 70);
        StretchedRows late = row(0, 0, 0);
        setAll(late, StretchedRows.GROW, 1, 1, 1);
        setAll(late, StretchedRows.MOST, 10, 40, 1000);
        widths("one after the other comes to its MOST", late, 100, 10, 40, 50);
    }

    private static void settlesByTheSum() {
        StretchedRows x = row(0, 0);
        setAll(x, StretchedRows.GROW, 1, 1);
        x.set(2, StretchedRows.LEAST, 60);
        x.set(1, StretchedRows.MOST, 40);
        widths("added is as much as taken", x, 100, 40, 60);
        x.set(1, StretchedRows.MOST, 45);
        widths("added is more", x, 100, 40, 60);
        x.set(1, StretchedRows.MOST, 30);
        widths("added is less", x, 100, 30, 70);
    }

    /** Rows where it makes a difference of 1, by the rounding, whether a child is settled before all others. */
    private static void settlesAtOnce() {
        StretchedRows fixed = row(4, 3, 1, 4);
        setAll(fixed, StretchedRows.GROW, 3, 1, 3, 0);
        setAll(fixed, StretchedRows.MOST, 5, 4, 5, 1000);
        fixed.set(4, StretchedRows.LEAST, 5);
        // The fourth at 5; a rest of 2 by 3, 1, 3: 1 each for the first two.
        widths("no GROW", fixed, 15, 5, 4, 1, 5);

        StretchedRows above = row(0, 2, 1, 1);
        setAll(above, StretchedRows.GROW, 2, 3, 1, 1);
        setAll(above, StretchedRows.MOST, 2, 1000, 0, 1);
        above.set(4, StretchedRows.LEAST, 2);
        // The third at 0; a rest of 4 by 2, 3, 1 settles the fourth at 2; a rest of 3 by 2, 3: 2 and 1.
        widths("a base above HYPO", above, 7, 2, 3, 0, 2);

        StretchedRows stiff = row(4, 5, 7, 4);
        setAll(stiff, StretchedRows.SHRINK, 0, 3, 1, 3);
        setAll(stiff, StretchedRows.MOST, 3, 2, 7, 1);
        // The first at 3; 11 lack by 15, 7, 12: 4, 2, 3, and 1 more for the first two of them.
        widths("no SHRINK", stiff, 8, 3, 0, 4, 1);

        StretchedRows below = row(10, 4, 6, 10);
        setAll(below, StretchedRows.SHRINK, 3, 1, 2, 2);
        setAll(below, StretchedRows.MOST, 8, 6, 2, 1000);
        setAll(below, StretchedRows.LEAST, 0, 0, 1, 12);
        // The fourth at 12; 8 lack by 30, 4, 12 settles the third at 2; 4 lack by 30, 4: 4 and 0.
        widths("a base below HYPO", below, 24, 6, 4, 2, 12);
    }

    private static void settlesByOne() {
        StretchedRows x = row(0, 0, 0);
        setAll(x, StretchedRows.GROW, 1, 1, 1);
        x.set(1, StretchedRows.LEAST, 21);
        widths("1 is added", x, 60, 21, 20, 19);
        x.set(1, StretchedRows.LEAST, 0);
        x.set(1, StretchedRows.MOST, 19);
        widths("1 is taken away", x, 60, 19, 21, 20);
        widths("nothing is", x, 57, 19, 19, 19);
        // 20 each: 1 is added to the second and 2 are taken from the first, so it is the first that is
        // settled; then 42 for the others, and 21 is just what the second needs.
        x.set(1, StretchedRows.MOST, 18);
        x.set(2, StretchedRows.LEAST, 21);
        widths("2 are taken away and 1 is added", x, 60, 18, 21, 21);
    }

    private static void shrinks() {
        StretchedRows x = row(50, 100);
        widths("by SHRINK times base", x, 120, 40, 80);
        widths("1 more for the first", x, 119, 39, 80);
        widths("exactly as wide", x, 150, 50, 100);
        setAll(x, StretchedRows.SHRINK, 2, 1);
        widths("2 to 1", x, 120, 35, 85);
        setAll(x, StretchedRows.SHRINK, 0, 1);
        widths("the first does not shrink", x, 120, 50, 70);
        setAll(x, StretchedRows.SHRINK, 0, 0);
        widths("none shrinks", x, 20, 50, 100);
        StretchedRows zero = row(0, 10, 10);
        widths("a base of 0 gives nothing", zero, 17, 0, 8, 9);
        StretchedRows gapped = row(45, 95);
        setAll(gapped, StretchedRows.SHRINK, 1, 9);
        gapped.set(0, StretchedRows.GAP, 10);
        // 30 lack, by 45 to 855: 1 and 28, and 1 more for the first.
        widths("gaps count", gapped, 120, 43, 67);
    }

    private static void shrinksWithinBounds() {
        StretchedRows x = row(50, 100);
        x.set(1, StretchedRows.LEAST, 45);
        widths("the first has its LEAST", x, 120, 45, 75);
        StretchedRows under = row(10, 100);
        under.set(1, StretchedRows.LEAST, 40);
        widths("a base below HYPO is settled at once", under, 100, 40, 60);
        StretchedRows over = row(200, 100);
        over.set(1, StretchedRows.MOST, 80);
        widths("it shrinks from its base", over, 100, 66, 34);
        widths("and comes to its MOST", over, 150, 80, 70);
        over.set(2, StretchedRows.GROW, 1);
        widths("by the HYPOs it grows", over, 181, 80, 101);
        StretchedRows crossed = row(100, 100);
        crossed.set(1, StretchedRows.MOST, 20);
        crossed.set(1, StretchedRows.LEAST, 90);
        widths("LEAST is above MOST", crossed, 150, 90, 60);
    }

    private static void shrinksToNothing() {
        StretchedRows x = row(10, 10);
        x.set(0, StretchedRows.GAP, 50);
        widths("the gaps alone are too wide", x, 0, 0, 0);
        Check.same("the second stays behind the gap", x.where(2, 0), 50);
        StretchedRows zero = row(0, 0);
        zero.set(0, StretchedRows.GAP, 50);
        widths("nothing to shrink", zero, 10, 0, 0);
        StretchedRows padded = row(10, 10);
        padded.set(0, StretchedRows.PAD, 50);
        widths("the pads alone are too wide", padded, 60, 0, 0);
        Check.same("they begin at the pad all the same", padded.where(1, 0), 50);
    }

    /** Naturals of rows reach tens of thousands, and what lacks times SHRINK times that more than an int. */
    private static void dealsOutMoreThanAnIntHolds() {
        StretchedRows x = new StretchedRows();
        x.node(StretchedRows.NONE, StretchedRows.ROW);
        x.node(0, StretchedRows.ROW);
        x.node(0, StretchedRows.ROW);
        for (int n = 3; n < 23; n++) {
            x.node(n < 13 ? 1 : 2, StretchedRows.TEXT);
            for (int k = 0; k < 12; k++) {
                x.word(n, 200);
            }
        }
        for (int n = 1; n <= 2; n++) {
            x.set(n, StretchedRows.SHRINK, 9);
        }
        Check.same("natural(1)", x.natural(1), 10000);
        Check.same("natural(0) has them clamped", x.natural(0), 2000);
        // Bases of 10000 each: 19000 lack, 9500 of each.
        widths("two long rows", x, 1000, 500, 500);
        widths("two long rows", x, 999, 499, 500);
    }

    private static void wraps() {
        StretchedRows x = row(40, 40, 40, 40);
        for (int n = 1; n <= 4; n++) {
            x.set(n, StretchedRows.HIGH, 10);
        }
        x.set(0, StretchedRows.GAP, 10);
        x.set(0, StretchedRows.WRAP, 1);
        int[][] widthAndLines = {{190, 1}, {189, 2}, {140, 2}, {139, 2}, {90, 2}, {89, 4}, {0, 4}};
        for (int[] row : widthAndLines) {
            Check.same("layout(" + row[0] + ")", x.layout(row[0]), 20L * row[1] - 10);
            Check.same("lines at " + row[0], x.lines(0), row[1]);
        }
        x.layout(140);
        Check.box(x, 3, 100, 0, 40, 10);
        Check.box(x, 4, 0, 20, 40, 10);
        x.set(0, StretchedRows.PAD, 5);
        x.set(1, StretchedRows.GROW, 1);
        x.set(3, StretchedRows.GROW, 1);
        Check.same("the height with pads", x.layout(110), 40);
        Check.box(x, 1, 5, 5, 50, 10);
        Check.box(x, 2, 65, 5, 40, 10);
        Check.box(x, 3, 5, 25, 50, 10);
        Check.box(x, 4, 65, 25, 40, 10);
        widths("each alone in its line", x, 40, 30, 30, 30, 30);
        x.set(2, StretchedRows.LEAST, 70);
        x.layout(110);
        Check.same("lines by the HYPO, not the base", x.lines(0), 3);
        x.set(0, StretchedRows.WRAP, 0);
        x.layout(110);
        Check.same("lines without WRAP", x.lines(0), 1);
        wrapsWithinThePads();
        wrapsByTheFirstHypo();
    }

    private static void wrapsWithinThePads() {
        StretchedRows x = row(40, 40);
        x.set(0, StretchedRows.WRAP, 1);
        x.set(0, StretchedRows.PAD, 10);
        x.layout(100);
        Check.same("80 within the pads", x.lines(0), 1);
        x.layout(99);
        Check.same("79 within the pads", x.lines(0), 2);
    }

    private static void wrapsByTheFirstHypo() {
        StretchedRows x = row(90, 40);
        x.set(0, StretchedRows.WRAP, 1);
        x.set(1, StretchedRows.MOST, 60);
        x.layout(100);
        Check.same("60 and 40 in 100", x.lines(0), 1);
        x.layout(99);
        Check.same("60 and 40 in 99", x.lines(0), 2);
    }

    private static void justifies() {
        StretchedRows x = row(10, 20, 30);
        x.set(0, StretchedRows.GAP, 2);
        x.set(0, StretchedRows.PAD, 3);
        lefts("START", x, 81, 3, 15, 37);
        x.set(0, StretchedRows.JUSTIFY, StretchedRows.CENTRE);
        lefts("CENTRE", x, 81, 8, 20, 42);
        x.set(0, StretchedRows.JUSTIFY, StretchedRows.END);
        lefts("END", x, 81, 14, 26, 48);
        x.set(0, StretchedRows.JUSTIFY, StretchedRows.BETWEEN);
        lefts("BETWEEN", x, 81, 3, 20, 48);
        setAll(x, StretchedRows.SHRINK, 0, 0, 0);
        for (int how = 0; how <= 3; how++) {
            x.set(0, StretchedRows.JUSTIFY, how);
            lefts("too narrow, JUSTIFY " + how, x, 20, 3, 15, 37);
        }
        StretchedRows one = row(10);
        one.set(0, StretchedRows.JUSTIFY, StretchedRows.BETWEEN);
        lefts("BETWEEN of one", one, 100, 0);
        one.set(0, StretchedRows.JUSTIFY, StretchedRows.CENTRE);
        lefts("CENTRE of one", one, 101, 45);
        StretchedRows lines = row(40, 40, 50);
        lines.set(0, StretchedRows.WRAP, 1);
        lines.set(0, StretchedRows.JUSTIFY, StretchedRows.END);
        lefts("each line on its own", lines, 100, 20, 60, 50);
        StretchedRows between = row(40, 40, 50, 20);
        between.set(0, StretchedRows.WRAP, 1);
        between.set(0, StretchedRows.GAP, 4);
        between.set(0, StretchedRows.JUSTIFY, StretchedRows.BETWEEN);
        lefts("BETWEEN in each line on its own", between, 100, 0, 60, 0, 80);
    }

    private static void alignsInLines() {
        StretchedRows x = row(10, 10, 10, 10, 10);
        setAll(x, StretchedRows.HIGH, 20, 5, 5, 5, 5);
        setAll(x, StretchedRows.ALIGN, StretchedRows.START, StretchedRows.STRETCH, StretchedRows.START,
            StretchedRows.CENTRE, StretchedRows.END);
        x.set(0, StretchedRows.PAD, 1);
        Check.same("layout(100)", x.layout(100), 22);
        Check.box(x, 1, 1, 1, 10, 20);
        Check.box(x, 2, 11, 1, 10, 20);
        Check.box(x, 3, 21, 1, 10, 5);
        Check.box(x, 4, 31, 8, 10, 5);
        Check.box(x, 5, 41, 16, 10, 5);
        stretchingLeavesWhatIsInside();
    }

    private static void stretchingLeavesWhatIsInside() {
        StretchedRows x = row(10, 10);
        x.set(1, StretchedRows.HIGH, 50);
        x.node(0, StretchedRows.ROW);
        x.node(3, StretchedRows.BOX);
        x.set(4, StretchedRows.BASIS, 5);
        x.set(4, StretchedRows.HIGH, 6);
        x.layout(100);
        Check.box(x, 2, 10, 0, 10, 50);
        Check.box(x, 3, 20, 0, 5, 50);
        Check.box(x, 4, 20, 0, 5, 6);
    }

    private static void ordersAndHides() {
        StretchedRows x = row(10, 20, 30);
        setAll(x, StretchedRows.ORDER, 0, 9, -9);
        lefts("by ORDER", x, 100, 30, 40, 0);
        setAll(x, StretchedRows.ORDER, 1, 0, 1);
        lefts("of equal ones by number", x, 100, 20, 0, 30);
        setAll(x, StretchedRows.GROW, 1, 1, 1);
        widths("the first ones are those of the order", x, 61, 10, 21, 30);
        x.set(0, StretchedRows.GAP, 10);
        x.set(2, StretchedRows.HIDDEN, 1);
        x.layout(60);
        Check.box(x, 1, 0, 0, 15, 0);
        Check.box(x, 3, 25, 0, 35, 0);
        Check.notLaidOut(x, 2);
    }

    private static void isEmpty() {
        StretchedRows x = row();
        x.set(0, StretchedRows.PAD, 6);
        x.set(0, StretchedRows.GAP, 9);
        Check.same("the height", x.layout(100), 12);
        Check.same("the lines", x.lines(0), 0);
        Check.same("the natural width", x.natural(0), 12);
        x.set(0, StretchedRows.WRAP, 1);
        x.layout(100);
        Check.same("the lines with WRAP", x.lines(0), 0);
        x.node(0, StretchedRows.BOX);
        x.set(1, StretchedRows.HIDDEN, 1);
        x.layout(100);
        Check.same("the lines with a hidden child alone", x.lines(0), 0);
    }
}
