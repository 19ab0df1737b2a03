/** PLACES, sentence by sentence. */
public final class EdgePlacesTest extends Scene {
    public static void main(String[] args) {
        allBeginAtPad();
        freeInAColumn();
        stretchInAColumn();
        alignInAColumnMovesNothingDown();
        tracksSideBySide();
        gridChildAtItsTracksLeft();
        freeInARow();
        freeLessThan0InARow();
        betweenOfOneTwoThree();
        eachLineHasItsOwnFree();
        freeBehindBounds();
        alignInALine();
        stretchInALine();
        whatIsInAStretchedOneStays();
        fromTheRoot();
        Check.end("EdgePlacesTest");
    }

    /** "all begin at PAD" */
    private static void allBeginAtPad() {
        for (int kind = COLUMN; kind <= GRID; kind++) {
            StretchedRows x = holding(kind, 10);
            x.set(1, HIGH, 5);
            for (int pad : new int[] {0, 1, 50}) {
                x.set(0, PAD, pad);
                for (int width : new int[] {0, 1, 99, 1000}) {
                    laidOut("PAD " + pad + " of kind " + kind, x, width, LEFT, pad);
                    seen("PAD " + pad + " of kind " + kind, x, TOP, pad);
                }
            }
        }
    }

    /** "with FREE = I less the child's width: START and STRETCH 0, CENTRE FREE / 2, END FREE"; "All divisions below round down." */
    private static void freeInAColumn() {
        StretchedRows x = holding(COLUMN, 10, 10, 10);
        setAll(x, ALIGN, START, CENTRE, END);
        x.set(0, PAD, 20);
        int[][] freeAndCentre = {{0, 0}, {1, 0}, {2, 1}, {3, 1}, {5, 2}, {940, 470}, {-1, -1}, {-2, -1}, {-3, -2}, {-9, -5}, {-10, -5}};
        for (int[] pair : freeAndCentre) {
            int free = pair[0];
            laidOut("FREE " + free, x, 50 + free, LEFT, 20, 20 + pair[1], 20 + free);
            seen("FREE " + free, x, WIDTH, 10, 10, 10);
        }
    }

    private static void stretchInAColumn() {
        StretchedRows x = holding(COLUMN, 10, 10, 10);
        x.set(1, MOST, 15);
        x.set(2, LEAST, 45);
        laidOut("FREE 15, -15 and 0", x, 30, WIDTH, 15, 45, 30);
        seen("STRETCH is at 0 all the same", x, LEFT, 0, 0, 0);
    }

    private static void alignInAColumnMovesNothingDown() {
        StretchedRows x = holding(COLUMN, 10, 10, 10, 10);
        setAll(x, ALIGN, END, CENTRE, STRETCH, START);
        setAll(x, HIGH, 5, 50, 7, 9);
        x.set(0, GAP, 2);
        laidOut("one child below the other, GAP between", x, 30, TOP, 0, 7, 59, 68);
        seen("each of its own height", x, HEIGHT, 5, 50, 7, 9);
    }

    /** "GRID: each child at its track's left, tracks side by side, GAP between, lines one below the other, GAP between." */
    private static void tracksSideBySide() {
        StretchedRows x = holding(GRID, 0, 0, 0, 0, 0);
        x.track(0, false, 10);
        x.track(0, true, 0);
        x.track(0, false, 5);
        x.track(0, true, 1);
        x.set(0, GAP, 3);
        x.set(0, PAD, 2);
        setAll(x, HIGH, 4, 6, 5, 1, 9);
        laidOut("tracks of 10, 0, 5 and 22", x, 50, LEFT, 2, 15, 18, 26, 2);
        seen("tracks of 10, 0, 5 and 22", x, WIDTH, 10, 0, 5, 22, 10);
        seen("two lines", x, TOP, 2, 2, 2, 2, 11);
        setAll(x, HIDDEN, 0, 1, 1, 1, 1);
        laidOut("tracks without children", x, 50, LEFT, 2);
    }

    private static void gridChildAtItsTracksLeft() {
        StretchedRows x = holding(GRID, 0, 0, 0);
        for (int i = 0; i < 3; i++) {
            x.track(0, false, 30);
        }
        setAll(x, MOST, 10, 10, 10);
        setAll(x, ALIGN, START, CENTRE, END);
        laidOut("ALIGN moves none to the right", x, 90, LEFT, 0, 30, 60);
        x.set(0, JUSTIFY, END);
        laidOut("nor does JUSTIFY", x, 200, LEFT, 0, 30, 60);
        setAll(x, MOST, 1000, 1000, 1000);
        setAll(x, LEAST, 70, 70, 70);
        laidOut("nor does a width beyond the track", x, 90, LEFT, 0, 30, 60);
    }

    /** "child k of n comes by JUSTIFY: START 0, CENTRE FREE / 2, END FREE, BETWEEN FREE * k / (n - 1)" */
    private static void freeInARow() {
        StretchedRows x = holding(ROW, 10, 10, 10, 10);
        x.set(0, GAP, 2);
        int[][][] frees = {
            {{0}, {0, 12, 24, 36}, {0, 12, 24, 36}, {0, 12, 24, 36}, {0, 12, 24, 36}},
            {{1}, {0, 12, 24, 37}, {0, 12, 24, 36}, {0, 12, 24, 36}, {1, 13, 25, 37}},
            {{2}, {0, 12, 25, 38}, {0, 12, 24, 36}, {1, 13, 25, 37}, {2, 14, 26, 38}},
            {{3}, {0, 13, 26, 39}, {0, 12, 24, 36}, {1, 13, 25, 37}, {3, 15, 27, 39}},
            {{5}, {0, 13, 27, 41}, {0, 12, 24, 36}, {2, 14, 26, 38}, {5, 17, 29, 41}},
            {{954}, {0, 330, 660, 990}, {0, 12, 24, 36}, {477, 489, 501, 513}, {954, 966, 978, 990}}
        };
        for (int[][] rows : frees) {
            int free = rows[0][0];
            for (int how = BETWEEN; how <= END; how++) {
                x.set(0, JUSTIFY, how);
                laidOut("JUSTIFY " + how + ", FREE " + free, x, 46 + free, LEFT, rows[1 + how]);
            }
        }
    }

    /** "FREE = I less its children's widths and gaps (0 if that is less)" */
    private static void freeLessThan0InARow() {
        StretchedRows x = holding(ROW, 10, 10);
        setAll(x, SHRINK, 0, 0);
        x.set(0, GAP, 4);
        x.set(0, PAD, 3);
        for (int how = BETWEEN; how <= END; how++) {
            x.set(0, JUSTIFY, how);
            for (int width : new int[] {30, 29, 28, 7, 6, 5, 0}) {
                laidOut("JUSTIFY " + how, x, width, LEFT, 3, 17);
            }
        }
        laidOut("END, FREE 1", x, 31, LEFT, 4, 18);
    }

    /** "BETWEEN FREE * k / (n - 1) (0 if n is 1)" */
    private static void betweenOfOneTwoThree() {
        StretchedRows one = holding(ROW, 10);
        one.set(0, JUSTIFY, BETWEEN);
        laidOut("of one", one, 100, LEFT, 0);
        laidOut("of one, FREE 0", one, 10, LEFT, 0);
        StretchedRows two = holding(ROW, 10, 10);
        two.set(0, JUSTIFY, BETWEEN);
        laidOut("of two", two, 51, LEFT, 0, 41);
        StretchedRows three = holding(ROW, 10, 10, 10);
        three.set(0, JUSTIFY, BETWEEN);
        laidOut("of three", three, 51, LEFT, 0, 20, 41);
        three.set(2, HIDDEN, 1);
        three.layout(51);
        Check.same("of three, one hidden", three.where(3, LEFT), 41);
        three.set(3, HIDDEN, 1);
        laidOut("of three, two hidden", three, 51, LEFT, 0);
    }

    private static void eachLineHasItsOwnFree() {
        StretchedRows x = holding(ROW, 40, 40, 50, 90);
        x.set(0, WRAP, 1);
        x.set(0, GAP, 1);
        x.set(0, JUSTIFY, BETWEEN);
        laidOut("BETWEEN: 19, 50 and 10", x, 100, LEFT, 0, 60, 0, 0);
        x.set(0, JUSTIFY, CENTRE);
        laidOut("CENTRE: 19, 50 and 10", x, 100, LEFT, 9, 50, 25, 5);
        x.set(0, JUSTIFY, END);
        laidOut("END: 19, 50 and 10", x, 100, LEFT, 19, 60, 50, 10);
        x.set(0, JUSTIFY, START);
        laidOut("START", x, 100, LEFT, 0, 41, 0, 0);
        StretchedRows two = holding(ROW, 40, 40, 30, 30, 30);
        two.set(0, WRAP, 1);
        two.set(0, JUSTIFY, BETWEEN);
        laidOut("BETWEEN counts k from 0 in each line", two, 109, LEFT, 0, 69, 0, 39, 79);
    }

    private static void freeBehindBounds() {
        StretchedRows x = holding(ROW, 10);
        x.set(0, JUSTIFY, CENTRE);
        x.set(1, GROW, 1);
        laidOut("all is dealt out", x, 101, LEFT, 0);
        x.set(1, MOST, 30);
        laidOut("MOST leaves 71", x, 101, LEFT, 35);
        x.set(1, MOST, 1000);
        x.set(1, LEAST, 200);
        laidOut("LEAST leaves less than 0", x, 101, LEFT, 0);
    }

    /** "In a line of a ROW or a GRID, by ALIGN: START 0, CENTRE (the line's height - the child's) / 2, END the whole difference" */
    private static void alignInALine() {
        for (int kind = ROW; kind <= GRID; kind++) {
            StretchedRows x = holding(kind, 1, 1, 1, 1);
            for (int i = 0; i < 4 && kind == GRID; i++) {
                x.track(0, false, 1);
            }
            x.set(0, PAD, 7);
            setAll(x, ALIGN, START, START, CENTRE, END);
            int[][] differenceAndCentre = {{0, 0}, {1, 0}, {2, 1}, {3, 1}, {5, 2}, {20, 10}};
            for (int[] pair : differenceAndCentre) {
                int high = 20 - pair[0];
                setAll(x, HIGH, 20, high, high, high);
                String name = "kind " + kind + ", a difference of " + pair[0];
                laidOut(name, x, 100, TOP, 7, 7, 7 + pair[1], 7 + pair[0]);
                seen(name, x, HEIGHT, 20, high, high, high);
            }
        }
        StretchedRows lines = holding(ROW, 60, 30, 60, 30);
        setAll(lines, HIGH, 10, 4, 3, 8);
        setAll(lines, ALIGN, START, END, CENTRE, START);
        lines.set(0, WRAP, 1);
        lines.set(0, GAP, 5);
        laidOut("from the line's own top", lines, 100, TOP, 0, 6, 17, 15);
    }

    /** "STRETCH 0, and the child's height becomes that of the line" */
    private static void stretchInALine() {
        for (int kind = ROW; kind <= GRID; kind++) {
            StretchedRows x = holding(kind, 60, 40, 60, 40);
            x.set(0, WRAP, 1);
            for (int i = 0; i < 2 && kind == GRID; i++) {
                x.track(0, false, 1);
            }
            setAll(x, HIGH, 10, 4, 0, 8);
            laidOut("STRETCH in kind " + kind, x, 100, HEIGHT, 10, 10, 8, 8);
            seen("STRETCH in kind " + kind, x, TOP, 0, 0, 10, 10);
            setAll(x, ALIGN, START, START, START, START);
            laidOut("START in kind " + kind, x, 100, HEIGHT, 10, 4, 0, 8);
            height("the height is the same", x, 100, 18);
            x.set(0, ALIGN, END);
            height("the root is in no line", x, 100, 18);
        }
    }

    /** "(what is in it stays as it is)" */
    private static void whatIsInAStretchedOneStays() {
        for (int kind = COLUMN; kind <= GRID; kind++) {
            StretchedRows x = holding(ROW, 10);
            x.set(1, HIGH, 50);
            x.node(0, kind);
            x.node(2, BOX);
            x.set(3, WIDE, 5);
            x.set(3, HIGH, 6);
            x.node(2, TEXT);
            x.word(4, 5);
            x.layout(100);
            Check.same("kind " + kind + " is stretched", x.where(2, HEIGHT), 50);
            Check.box(x, 3, 10, 0, 5, kind == ROW ? 10 : 6);
            Check.box(x, 4, kind == ROW ? 15 : 10, kind == ROW ? 0 : 6, 5, 10);
            x.set(3, ALIGN, END);
            x.layout(100);
            Check.same("END in kind " + kind + " is of its own line", x.where(3, TOP), kind == ROW ? 4 : 0);
            Check.same("at in what was stretched", x.at(11, 49), 2);
        }
        StretchedRows text = holding(ROW, 10);
        text.set(1, HIGH, 50);
        text.node(0, TEXT);
        text.word(2, 20);
        text.layout(100);
        Check.same("a text is stretched", text.where(2, HEIGHT), 50);
        Check.same("and has one line", text.lines(2), 1);
    }

    /** "from the root's left (0) or top (1)": what is within a container is farther by the container's place. */
    private static void fromTheRoot() {
        StretchedRows x = tower(8);
        for (int n = 0; n < 8; n++) {
            x.set(n, PAD, n + 1);
        }
        x.layout(100);
        int place = 0;
        for (int n = 0; n < 8; n++) {
            Check.box(x, n, place, place, 100 - 2 * place, 2 * (36 - place));
            place += n + 1;
        }
        StretchedRows left = holding(COLUMN);
        left.node(0, COLUMN);
        left.node(1, BOX);
        left.set(1, BASIS, 30);
        left.set(1, ALIGN, END);
        left.set(2, BASIS, 41);
        left.set(2, ALIGN, END);
        left.set(2, HIGH, 3);
        left.layout(20);
        Check.box(left, 1, -10, 0, 30, 3);
        Check.box(left, 2, -21, 0, 41, 3);
    }
}
