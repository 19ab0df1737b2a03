/** WIDTHS, sentence by sentence. */
public final class EdgeWidthsTest extends Scene {
    public static void main(String[] args) {
        rootIsClamped();
        innerWidth();
        columnStretchesOrHasHypo();
        leftBehindFixedTracks();
        sharesOfTheSum0();
        oneMoreForTheFirstShares();
        oneMoreNotForShares0();
        gridChildIsClamped();
        oneLineWithoutWrap();
        justFullAndOneTooLong();
        theFirstInALine();
        wrapsByHypoAndInner();
        growsOrShrinks();
        settledAtOnce();
        oneMoreForTheFirstThatGrow();
        lacksBySharesOfTheBase();
        oneLessOnlyWithAProduct();
        productsOfTheSum0();
        moreLacksThanThereIs();
        clampingAddsNothingInAll();
        clampingAddsMore();
        clampingTakesMore();
        oneRoundAfterTheOther();
        eachLineOnItsOwn();
        Check.end("EdgeWidthsTest");
    }

    private static StretchedRows growing(int... bases) {
        StretchedRows x = holding(ROW, bases);
        for (int n = 1; n <= bases.length; n++) {
            x.set(n, GROW, 1);
        }
        return x;
    }

    /** "The root's width is the given one, clamped." */
    private static void rootIsClamped() {
        for (int kind = BOX; kind <= GRID; kind++) {
            StretchedRows x = holding(kind);
            x.set(0, WIDE, 77);
            x.set(0, BASIS, 66);
            int[][] free = {{0, 0}, {1, 1}, {999, 999}, {1000, 1000}};
            rootWidths(x, free);
            x.set(0, LEAST, 40);
            x.set(0, MOST, 100);
            int[][] bound = {{0, 40}, {39, 40}, {40, 40}, {41, 41}, {99, 99}, {100, 100}, {101, 100}, {1000, 100}};
            rootWidths(x, bound);
        }
    }

    private static void rootWidths(StretchedRows x, int[][] givenAndDue) {
        for (int[] pair : givenAndDue) {
            x.layout(pair[0]);
            Check.same("the root's width, layout(" + pair[0] + ")", x.where(0, WIDTH), pair[1]);
        }
    }

    /** "the INNER width I is w - 2 * PAD, or 0 if that is less" */
    private static void innerWidth() {
        for (int kind = COLUMN; kind <= GRID; kind++) {
            StretchedRows x = holding(kind, 0);
            x.set(1, GROW, 1);
            x.set(0, PAD, 20);
            int[][] givenAndDue = {{100, 60}, {42, 2}, {41, 1}, {40, 0}, {39, 0}, {1, 0}, {0, 0}};
            for (int[] pair : givenAndDue) {
                laidOut("I in kind " + kind, x, pair[0], WIDTH, pair[1]);
                seen("the child begins at PAD all the same", x, LEFT, 20);
            }
        }
        // A width that was less than 0 would be seen in FREE.
        StretchedRows column = holding(COLUMN, 10);
        column.set(1, ALIGN, END);
        column.set(0, PAD, 20);
        laidOut("FREE where I is 1", column, 41, LEFT, 20 - 9);
        laidOut("FREE where I is 0", column, 40, LEFT, 20 - 10);
        laidOut("FREE where I would be -1", column, 39, LEFT, 20 - 10);
        laidOut("FREE where I would be -40", column, 0, LEFT, 20 - 10);
    }

    /** "COLUMN: a child's width is I, clamped, if its ALIGN is STRETCH, else its HYPO." */
    private static void columnStretchesOrHasHypo() {
        StretchedRows x = holding(COLUMN, 70, 70, 70, 70);
        setAll(x, ALIGN, STRETCH, START, CENTRE, END);
        laidOut("narrower than the child", x, 50, WIDTH, 50, 70, 70, 70);
        laidOut("wider than the child", x, 90, WIDTH, 90, 70, 70, 70);
        setAll(x, MOST, 60, 60, 60, 60);
        laidOut("MOST", x, 90, WIDTH, 60, 60, 60, 60);
        laidOut("MOST, just as wide", x, 60, WIDTH, 60, 60, 60, 60);
        laidOut("MOST, one too narrow", x, 59, WIDTH, 59, 60, 60, 60);
        setAll(x, LEAST, 80, 80, 80, 80);
        laidOut("LEAST", x, 50, WIDTH, 80, 80, 80, 80);
        StretchedRows basis = holding(COLUMN, 70, 70);
        setAll(basis, BASIS, 0, 0);
        setAll(basis, ALIGN, STRETCH, START);
        laidOut("BASIS", basis, 50, WIDTH, 50, 0);
    }

    /** "what is left of I behind the FIXED tracks and the gaps, or 0 if that is less, is dealt out to the SHARES" */
    private static void leftBehindFixedTracks() {
        StretchedRows x = holding(GRID, 0, 0, 0);
        x.track(0, false, 30);
        x.track(0, true, 3);
        x.track(0, false, 20);
        x.set(0, GAP, 5);
        x.set(0, PAD, 1);
        laidOut("2 are left", x, 64, WIDTH, 30, 2, 20);
        seen("2 are left", x, LEFT, 1, 36, 43);
        laidOut("1 is left", x, 63, WIDTH, 30, 1, 20);
        laidOut("nothing is left", x, 62, WIDTH, 30, 0, 20);
        laidOut("1 lacks", x, 61, WIDTH, 30, 0, 20);
        laidOut("all lacks", x, 0, WIDTH, 30, 0, 20);
        seen("all lacks", x, LEFT, 1, 36, 41);
        StretchedRows gaps = holding(GRID, 0, 0, 0, 0);
        for (int i = 0; i < 4; i++) {
            gaps.track(0, true, 1);
        }
        gaps.set(0, GAP, 50);
        laidOut("1 is left behind the gaps", gaps, 151, WIDTH, 1, 0, 0, 0);
        laidOut("nothing is left behind the gaps", gaps, 150, WIDTH, 0, 0, 0, 0);
        laidOut("the gaps alone are too wide", gaps, 149, WIDTH, 0, 0, 0, 0);
        seen("the gaps stay", gaps, LEFT, 0, 50, 100, 150);
    }

    /** "left * f / s (0 if s is 0)", and no 1 more "if s is not 0" does not hold */
    private static void sharesOfTheSum0() {
        StretchedRows x = holding(GRID, 9, 9, 9);
        x.track(0, true, 0);
        x.track(0, false, 10);
        x.track(0, true, 0);
        laidOut("s is 0", x, 100, WIDTH, 0, 10, 0);
        seen("s is 0", x, LEFT, 0, 0, 10);
        laidOut("s is 0 and nothing is left", x, 10, WIDTH, 0, 10, 0);
        StretchedRows fixed = holding(GRID, 9);
        fixed.track(0, false, 10);
        laidOut("no share at all", fixed, 100, WIDTH, 10);
    }

    /** "and 1 more for the first ones, as many as it takes to have dealt out all" */
    private static void oneMoreForTheFirstShares() {
        StretchedRows x = holding(GRID, 0, 0, 0, 0);
        for (int i = 0; i < 4; i++) {
            x.track(0, true, 7);
        }
        laidOut("0", x, 0, WIDTH, 0, 0, 0, 0);
        laidOut("1", x, 1, WIDTH, 1, 0, 0, 0);
        laidOut("3", x, 3, WIDTH, 1, 1, 1, 0);
        laidOut("4", x, 4, WIDTH, 1, 1, 1, 1);
        laidOut("100", x, 100, WIDTH, 25, 25, 25, 25);
        laidOut("101", x, 101, WIDTH, 26, 25, 25, 25);
        laidOut("102", x, 102, WIDTH, 26, 26, 25, 25);
        laidOut("103", x, 103, WIDTH, 26, 26, 26, 25);
        seen("103", x, LEFT, 0, 26, 52, 78);
        StretchedRows uneven = holding(GRID, 0, 0);
        uneven.track(0, true, 1);
        uneven.track(0, true, 200);
        // 1000 * 1 / 201 = 4, 1000 * 200 / 201 = 995.
        laidOut("1 and 200", uneven, 1000, WIDTH, 5, 995);
        laidOut("1 and 200, all even", uneven, 201, WIDTH, 1, 200);
        laidOut("1 and 200, one less", uneven, 200, WIDTH, 1, 199);
    }

    /** "(if s is not 0, and only to those whose number is not 0)" */
    private static void oneMoreNotForShares0() {
        StretchedRows x = holding(GRID, 0, 0, 0, 0);
        x.track(0, true, 0);
        x.track(0, true, 1);
        x.track(0, true, 0);
        x.track(0, true, 2);
        laidOut("0, 1, 0, 2", x, 1, WIDTH, 0, 1, 0, 0);
        laidOut("0, 1, 0, 2", x, 9, WIDTH, 0, 3, 0, 6);
        laidOut("0, 1, 0, 2", x, 10, WIDTH, 0, 4, 0, 6);
        laidOut("0, 1, 0, 2", x, 11, WIDTH, 0, 4, 0, 7);
        StretchedRows fixed = holding(GRID, 0, 0, 0);
        fixed.track(0, false, 10);
        fixed.track(0, true, 1);
        fixed.track(0, true, 1);
        laidOut("a fixed one gets no 1 more", fixed, 15, WIDTH, 10, 3, 2);
        StretchedRows last = holding(GRID, 0, 0, 0, 0);
        last.track(0, true, 3);
        last.track(0, true, 0);
        last.track(0, true, 3);
        last.track(0, true, 3);
        // 11 by thirds: 3 each, and 2 are left.
        laidOut("it goes to those behind a 0 too", last, 11, WIDTH, 4, 0, 4, 3);
    }

    /** "A child's width is that of its track, clamped." */
    private static void gridChildIsClamped() {
        StretchedRows x = holding(GRID, 500, 500);
        x.track(0, false, 50);
        x.track(0, true, 1);
        setAll(x, LEAST, 50, 50);
        setAll(x, MOST, 50, 50);
        laidOut("just as wide", x, 100, WIDTH, 50, 50);
        setAll(x, LEAST, 0, 0);
        setAll(x, MOST, 49, 49);
        laidOut("MOST is 1 less", x, 100, WIDTH, 49, 49);
        seen("the tracks are as wide as before", x, LEFT, 0, 50);
        setAll(x, MOST, 1000, 1000);
        setAll(x, LEAST, 51, 51);
        laidOut("LEAST is 1 more", x, 100, WIDTH, 51, 51);
        seen("the tracks are as wide as before", x, LEFT, 0, 50);
        laidOut("a fixed track wider than all", x, 40, WIDTH, 51, 51);
    }

    /** "If WRAP is 0 there is one line" */
    private static void oneLineWithoutWrap() {
        StretchedRows x = holding(ROW, 500, 500, 500);
        for (int width : new int[] {0, 499, 500, 1000}) {
            linesAt("WRAP is 0", x, width, 1);
        }
        x.set(0, WRAP, 1);
        linesAt("WRAP is 1", x, 1000, 2);
        linesAt("WRAP is 1", x, 999, 3);
    }

    /** "the HYPOs in it, the child's, and GAP between each two would be more than I" */
    private static void justFullAndOneTooLong() {
        StretchedRows x = holding(ROW, 40, 40, 20);
        setAll(x, HIGH, 1, 2, 4);
        x.set(0, GAP, 10);
        x.set(0, WRAP, 1);
        height("all three, just full", x, 120, 4);
        height("two and one", x, 119, 2 + 10 + 4);
        height("two, just full, and one", x, 90, 2 + 10 + 4);
        height("one and two", x, 89, 1 + 10 + 4);
        height("one and two, just full", x, 70, 1 + 10 + 4);
        height("one by one", x, 69, 1 + 10 + 2 + 10 + 4);
        linesAt("all three, just full", x, 120, 1);
        linesAt("two and one", x, 119, 2);
        linesAt("one and two", x, 70, 2);
        linesAt("one by one", x, 69, 3);
        StretchedRows many = holding(ROW, 1, 1, 1, 1, 1, 1, 1, 1, 1, 1, 1, 1, 1, 1, 1, 1, 1, 1, 1, 1, 1, 1, 1);
        many.set(0, WRAP, 1);
        linesAt("23 in a line, just full", many, 23, 1);
        linesAt("22 in a line and 1", many, 22, 2);
        linesAt("23 lines", many, 1, 23);
    }

    /** "a child begins a new line if it is not the first one in the line" */
    private static void theFirstInALine() {
        StretchedRows x = holding(ROW, 60, 10, 60);
        setAll(x, HIGH, 1, 2, 4);
        setAll(x, SHRINK, 0, 0, 0);
        x.set(0, WRAP, 1);
        height("the first is too long for its line", x, 50, 1 + 2 + 4);
        linesAt("no line is empty before it", x, 50, 3);
        seen("it stays as long as it is", x, WIDTH, 60, 10, 60);
        height("nothing fits", x, 0, 1 + 2 + 4);
        StretchedRows nothing = holding(ROW, 0, 0, 0);
        nothing.set(0, WRAP, 1);
        linesAt("what is 0 wide is never too long", nothing, 0, 1);
        nothing.set(0, GAP, 1);
        linesAt("but for the gaps: 2 are just full", nothing, 2, 1);
        linesAt("but for the gaps: one too long", nothing, 1, 2);
        linesAt("but for the gaps: each in its line", nothing, 0, 3);
    }

    private static void wrapsByHypoAndInner() {
        StretchedRows most = holding(ROW, 90, 90);
        setAll(most, MOST, 60, 40);
        most.set(0, WRAP, 1);
        linesAt("MOST counts", most, 100, 1);
        linesAt("MOST counts", most, 99, 2);
        StretchedRows least = holding(ROW, 10, 10);
        setAll(least, LEAST, 60, 40);
        least.set(0, WRAP, 1);
        linesAt("LEAST counts", least, 100, 1);
        linesAt("LEAST counts", least, 99, 2);
        least.set(0, PAD, 7);
        linesAt("within the pads", least, 114, 1);
        linesAt("within the pads", least, 113, 2);
        linesAt("the pads alone are too wide", least, 5, 2);
    }

    /** "it GROWS if the HYPOs and the gaps are less than I, else it SHRINKS" */
    private static void growsOrShrinks() {
        StretchedRows x = growing(40, 40);
        x.set(0, GAP, 10);
        laidOut("1 less than I", x, 91, WIDTH, 41, 40);
        laidOut("just I", x, 90, WIDTH, 40, 40);
        laidOut("1 more than I", x, 89, WIDTH, 39, 40);
        StretchedRows hypo = growing(100, 40);
        hypo.set(1, MOST, 40);
        laidOut("by the HYPO: 1 less than I", hypo, 81, WIDTH, 40, 41);
        laidOut("by the HYPO: just I", hypo, 80, WIDTH, 40, 40);
        // 100 and 40 as bases, 61 lack: 43 and 17, and 1 more for the first: 56, clamped to 40, and 23; then 1 lacks of 40.
        laidOut("by the HYPO: 1 more than I", hypo, 79, WIDTH, 40, 39);
        StretchedRows raised = growing(10, 40);
        raised.set(1, LEAST, 40);
        laidOut("by a raised HYPO: 1 less than I", raised, 81, WIDTH, 40, 41);
        laidOut("by a raised HYPO: just I", raised, 80, WIDTH, 40, 40);
        laidOut("by a raised HYPO: 1 more than I", raised, 79, WIDTH, 40, 39);
    }

    /**
     * "A child is SETTLED at its HYPO at once, if GROW (SHRINK if it shrinks) is 0, or the base is more than the HYPO
     * when it grows, less when it shrinks." The widths here hang, by their rounding, on which children are settled first.
     */
    private static void settledAtOnce() {
        StretchedRows noGrow = holding(ROW, 10, 10);
        setAll(noGrow, GROW, 0, 1);
        setAll(noGrow, SHRINK, 0, 0);
        laidOut("GROW is 0", noGrow, 50, WIDTH, 10, 40);
        setAll(noGrow, GROW, 0, 0);
        laidOut("GROW is 0 for all", noGrow, 50, WIDTH, 10, 10);
        StretchedRows noShrink = holding(ROW, 30, 30);
        setAll(noShrink, SHRINK, 0, 1);
        laidOut("SHRINK is 0", noShrink, 50, WIDTH, 30, 20);
        setAll(noShrink, SHRINK, 0, 0);
        laidOut("SHRINK is 0 for all", noShrink, 50, WIDTH, 30, 30);

        StretchedRows fixed = holding(ROW, 4, 3, 1, 4);
        setAll(fixed, GROW, 3, 1, 3, 0);
        setAll(fixed, MOST, 5, 4, 5, 1000);
        fixed.set(4, LEAST, 5);
        // The fourth at 5; a rest of 2 by 3, 1, 3: 1 each for the first two.
        laidOut("GROW is 0 and the base is less than the HYPO", fixed, 15, WIDTH, 5, 4, 1, 5);
        StretchedRows stiff = holding(ROW, 4, 5, 7, 4);
        setAll(stiff, SHRINK, 0, 3, 1, 3);
        setAll(stiff, MOST, 3, 2, 7, 1);
        // The first at 3; 11 lack by 15, 7, 12: 4, 2, 3, and 1 more for the first two of them.
        laidOut("SHRINK is 0 and the base is more than the HYPO", stiff, 8, WIDTH, 3, 0, 4, 1);
        StretchedRows more = holding(ROW, 0, 2, 1, 1);
        setAll(more, GROW, 2, 3, 1, 1);
        setAll(more, MOST, 2, 1000, 0, 1);
        more.set(4, LEAST, 2);
        // The third at 0; a rest of 4 by 2, 3, 1 settles the fourth at 2; a rest of 3 by 2, 3: 2 and 1.
        laidOut("the base is more than the HYPO when it grows", more, 7, WIDTH, 2, 3, 0, 2);
        StretchedRows less = holding(ROW, 10, 4, 6, 10);
        setAll(less, SHRINK, 3, 1, 2, 2);
        setAll(less, MOST, 8, 6, 2, 1000);
        setAll(less, LEAST, 0, 0, 1, 12);
        // The fourth at 12; 8 lack by 30, 4, 12 settles the third at 2; 4 lack by 30, 4: 4 and 0.
        laidOut("the base is less than the HYPO when it shrinks", less, 24, WIDTH, 6, 4, 2, 12);
        StretchedRows same = growing(10, 10);
        same.set(1, LEAST, 10);
        laidOut("the base is just the HYPO when it grows", same, 40, WIDTH, 20, 20);
        same.set(1, LEAST, 0);
        same.set(1, MOST, 10);
        laidOut("the base is just the HYPO when it shrinks", same, 10, WIDTH, 5, 5);
    }

    /** "each of them gets its base and REST * GROW / s .., and the first ones 1 more each as far as all of REST is not dealt out" */
    private static void oneMoreForTheFirstThatGrow() {
        StretchedRows x = growing(10, 20, 30);
        laidOut("a rest of 1", x, 61, WIDTH, 11, 20, 30);
        laidOut("a rest of 2", x, 62, WIDTH, 11, 21, 30);
        laidOut("a rest of 3", x, 63, WIDTH, 11, 21, 31);
        laidOut("a rest of 4", x, 64, WIDTH, 12, 21, 31);
        x.set(1, GROW, 0);
        laidOut("the first is settled: a rest of 1", x, 61, WIDTH, 10, 21, 30);
        x.set(3, ORDER, -1);
        laidOut("the first by ORDER: a rest of 1", x, 61, WIDTH, 10, 20, 31);
        StretchedRows uneven = growing(0, 0);
        uneven.set(2, GROW, 9);
        // 1 * 1 / 10 = 0 and 1 * 9 / 10 = 0; 19 * 1 / 10 = 1 and 19 * 9 / 10 = 17.
        laidOut("1 to 9: a rest of 1", uneven, 1, WIDTH, 1, 0);
        laidOut("1 to 9: a rest of 10", uneven, 10, WIDTH, 1, 9);
        laidOut("1 to 9: a rest of 19", uneven, 19, WIDTH, 2, 17);
        StretchedRows one = growing(0);
        laidOut("one takes all", one, 1000, WIDTH, 1000);
    }

    /** "each gets its base less LACK * p / s", p "the product of SHRINK and base" */
    private static void lacksBySharesOfTheBase() {
        StretchedRows x = holding(ROW, 10, 20, 30);
        laidOut("1 lacks", x, 59, WIDTH, 9, 20, 30);
        laidOut("2 lack", x, 58, WIDTH, 9, 20, 29);
        laidOut("3 lack", x, 57, WIDTH, 9, 19, 29);
        laidOut("4 lack", x, 56, WIDTH, 9, 19, 28);
        laidOut("5 lack", x, 55, WIDTH, 9, 18, 28);
        laidOut("6 lack", x, 54, WIDTH, 9, 18, 27);
        laidOut("59 lack", x, 1, WIDTH, 0, 0, 1);
        laidOut("60 lack", x, 0, WIDTH, 0, 0, 0);
        setAll(x, SHRINK, 9, 1, 1);
        // p is 90, 20, 30: 14 * 90 / 140 = 9, 2, 3.
        laidOut("9, 1, 1", x, 46, WIDTH, 1, 18, 27);
    }

    /** "the first ones with a p that is not 0 1 less each as far as all of LACK is not dealt out" */
    private static void oneLessOnlyWithAProduct() {
        StretchedRows zero = holding(ROW, 0, 10, 0, 10);
        setAll(zero, SHRINK, 9, 1, 9, 1);
        laidOut("bases of 0 give nothing", zero, 19, WIDTH, 0, 9, 0, 10);
        laidOut("bases of 0 give nothing", zero, 18, WIDTH, 0, 9, 0, 9);
        laidOut("bases of 0 give nothing", zero, 17, WIDTH, 0, 8, 0, 9);
        StretchedRows stiff = holding(ROW, 10, 10, 10);
        setAll(stiff, SHRINK, 0, 1, 1);
        laidOut("one that is settled gives nothing", stiff, 29, WIDTH, 10, 9, 10);
        stiff.set(3, ORDER, -1);
        laidOut("the first by ORDER", stiff, 29, WIDTH, 10, 10, 9);
    }

    /** "0 for each if s is 0" */
    private static void productsOfTheSum0() {
        StretchedRows x = holding(ROW, 0, 0);
        x.set(0, GAP, 50);
        laidOut("all bases are 0 and 40 lack", x, 10, WIDTH, 0, 0);
        laidOut("all bases are 0 and nothing lacks", x, 50, WIDTH, 0, 0);
        seen("the gap stays", x, LEFT, 0, 50);
        StretchedRows late = holding(ROW, 0, 10);
        late.set(2, LEAST, 8);
        // 7 lack of 0 and 10: the second comes to 3 and is settled at 8; then the first alone is left.
        laidOut("s is 0 in the second round", late, 3, WIDTH, 0, 8);
    }

    private static void moreLacksThanThereIs() {
        StretchedRows x = holding(ROW, 10, 20);
        x.set(0, GAP, 50);
        laidOut("the gap alone is too wide", x, 0, WIDTH, 0, 0);
        laidOut("just the gap", x, 50, WIDTH, 0, 0);
        laidOut("the gap and 1", x, 51, WIDTH, 0, 1);
        StretchedRows stiff = holding(ROW, 100, 20);
        setAll(stiff, SHRINK, 0, 1);
        laidOut("one that does not shrink takes more than all", stiff, 50, WIDTH, 100, 0);
        laidOut("one that does not shrink takes all", stiff, 100, WIDTH, 100, 0);
        laidOut("one that does not shrink takes all but 1", stiff, 101, WIDTH, 100, 1);
        StretchedRows least = holding(ROW, 100, 100);
        setAll(least, LEAST, 60, 60);
        laidOut("both have their LEAST", least, 50, WIDTH, 60, 60);
        laidOut("both have just their LEAST", least, 120, WIDTH, 60, 60);
        laidOut("both have 1 more", least, 121, WIDTH, 60, 61);
    }

    /** "the sum of what clamping added, less what it took away: if it is 0, all are settled so" */
    private static void clampingAddsNothingInAll() {
        StretchedRows free = growing(0, 0, 0);
        laidOut("nothing is clamped", free, 30, WIDTH, 10, 10, 10);
        StretchedRows grows = growing(0, 0, 0);
        grows.set(1, MOST, 20);
        grows.set(3, LEAST, 60);
        laidOut("it grows: 20 less and 20 more", grows, 120, WIDTH, 20, 40, 60);
        StretchedRows shrinks = holding(ROW, 100, 100, 100);
        shrinks.set(1, LEAST, 60);
        shrinks.set(2, MOST, 40);
        laidOut("it shrinks: 10 more and 10 less", shrinks, 150, WIDTH, 60, 40, 50);
    }

    /** "if it is more, those to which clamping added something are settled so" */
    private static void clampingAddsMore() {
        StretchedRows grows = growing(0, 0, 0);
        grows.set(1, MOST, 30);
        grows.set(3, LEAST, 60);
        // 40 each: 10 less and 20 more, so the third is settled; then 30 each.
        laidOut("it grows", grows, 120, WIDTH, 30, 30, 60);
        grows.set(1, MOST, 39);
        grows.set(3, LEAST, 42);
        // 1 less and 2 more; then 39 each.
        laidOut("it grows, by 1", grows, 120, WIDTH, 39, 39, 42);
        StretchedRows one = growing(0, 0, 0);
        one.set(1, LEAST, 21);
        // 20 each: 1 more; then 39 for two.
        laidOut("it grows, 1 is added to one alone", one, 60, WIDTH, 21, 20, 19);
        StretchedRows shrinks = holding(ROW, 100, 100, 100);
        shrinks.set(1, LEAST, 60);
        shrinks.set(2, MOST, 46);
        // 50 each: 10 more and 4 less, so the first is settled; then 45 each.
        laidOut("it shrinks", shrinks, 150, WIDTH, 60, 45, 45);
    }

    /** "if it is less, those from which it took something away" */
    private static void clampingTakesMore() {
        StretchedRows grows = growing(0, 0, 0);
        grows.set(1, MOST, 10);
        grows.set(3, LEAST, 54);
        // 40 each: 30 less and 14 more, so the first is settled; then 55 each.
        laidOut("it grows", grows, 120, WIDTH, 10, 55, 55);
        grows.set(1, MOST, 38);
        grows.set(3, LEAST, 41);
        // 2 less and 1 more; then 41 each.
        laidOut("it grows, by 1", grows, 120, WIDTH, 38, 41, 41);
        StretchedRows one = growing(0, 0, 0);
        one.set(1, MOST, 19);
        // 20 each: 1 less; then 41 for two.
        laidOut("it grows, 1 is taken from one alone", one, 60, WIDTH, 19, 21, 20);
        StretchedRows shrinks = holding(ROW, 100, 100, 100);
        shrinks.set(1, LEAST, 54);
        shrinks.set(2, MOST, 30);
        // 50 each: 4 more and 20 less, so the second is settled; then 60 each.
        laidOut("it shrinks", shrinks, 150, WIDTH, 60, 30, 60);
    }

    /** "Then, as long as one is not settled" */
    private static void oneRoundAfterTheOther() {
        StretchedRows grows = growing(0, 0, 0, 0);
        setAll(grows, MOST, 10, 40, 70, 1000);
        // 50 each, then 63 each, then 75 each, then 80.
        laidOut("one after the other comes to its MOST", grows, 200, WIDTH, 10, 40, 70, 80);
        setAll(grows, MOST, 10, 40, 70, 79);
        laidOut("all come to their MOST", grows, 200, WIDTH, 10, 40, 70, 79);
        StretchedRows shrinks = holding(ROW, 100, 100, 100, 100);
        setAll(shrinks, LEAST, 90, 60, 30, 0);
        // 50 each: 90 and 60 are settled; then 25 each: 30 is settled; then 20.
        laidOut("one after the other comes to its LEAST", shrinks, 200, WIDTH, 90, 60, 30, 20);
        setAll(shrinks, LEAST, 90, 60, 30, 21);
        laidOut("all come to their LEAST", shrinks, 200, WIDTH, 90, 60, 30, 21);
    }

    /** "In each line" */
    private static void eachLineOnItsOwn() {
        StretchedRows x = growing(60, 60, 200, 30);
        x.set(0, WRAP, 1);
        x.set(0, GAP, 4);
        // 60 and 60 are 24 too many for 100, each alone grows by 40; 200 shrinks; 30 grows.
        laidOut("lines that grow and lines that shrink", x, 100, WIDTH, 100, 100, 100, 100);
        laidOut("two, one and one", x, 125, WIDTH, 61, 60, 125, 125);
        laidOut("two just full, one and one", x, 124, WIDTH, 60, 60, 124, 124);
        StretchedRows lines = growing(10, 10, 10, 10, 10, 10);
        lines.set(0, WRAP, 1);
        laidOut("a rest of 5 in each line", lines, 35, WIDTH, 12, 12, 11, 12, 12, 11);
        laidOut("a rest of 1 in each line", lines, 31, WIDTH, 11, 10, 10, 11, 10, 10);
    }
}
