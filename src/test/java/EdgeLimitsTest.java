/** How many there may be of each thing, and from where to where each argument goes: the last that is taken, the first that is not. */
public final class EdgeLimitsTest extends Scene {
    public static void main(String[] args) {
        thereAtATime();
        whatIsRemovedMakesRoom();
        insideOneAnother();
        insideOneAnotherOfEachKind();
        depthIsOfWhatIsThere();
        madeInAll();
        refusedOnesAreNotMade();
        neverTheSameNumber();
        wordsOfAText();
        tracksOfAGrid();
        widthsOfWords();
        numbersOfTracks();
        widthsOfLayouts();
        kinds();
        parents();
        nodesThatAreNotThere();
        nodesOfAnotherKind();
        removedInAll();
        Check.end("EdgeLimitsTest");
    }

    private static StretchedRows withThere(int count) {
        StretchedRows x = new StretchedRows();
        x.node(NONE, GRID);
        for (int n = 1; n < count; n++) {
            x.node(0, n == 1 ? ROW : BOX);
        }
        return x;
    }

    /** "at most 24 are there at a time" */
    private static void thereAtATime() {
        StretchedRows x = withThere(23);
        x.set(22, HIDDEN, 1);
        Check.same("the 24th", x.node(1, TEXT), 23);
        for (int kind = BOX; kind <= GRID; kind++) {
            int k = kind;
            Check.badState("the 25th, of kind " + k, () -> x.node(0, k));
            Check.badState("the 25th, of kind " + k + " in another", () -> x.node(1, k));
        }
        Check.same("nodes()", x.nodes(), 24);
        Check.same("24 are laid out", x.layout(100), 0);
        Check.same("where of the last", x.where(23, WIDTH), 0);
    }

    /** "at most 24 are there at a time": those taken away are not. */
    private static void whatIsRemovedMakesRoom() {
        StretchedRows x = withThere(22);
        x.node(1, BOX);
        x.node(1, BOX);
        Check.same("three go", x.remove(1), 3);
        for (int n = 24; n < 27; n++) {
            Check.same("one of three again", x.node(0, BOX), n);
        }
        Check.badState("and no fourth", () -> x.node(0, BOX));
        Check.same("all go", x.remove(0), 24);
        Check.same("a root again", x.node(NONE, COLUMN), 27);
        for (int n = 28; n < 51; n++) {
            Check.same("24 again", x.node(27, BOX), n);
        }
        Check.badState("and no 25th", () -> x.node(27, BOX));
    }

    /** "at most 8 inside one another (the root is the first of these)" */
    private static void insideOneAnother() {
        StretchedRows x = tower(7);
        Check.same("the eighth", x.node(6, COLUMN), 7);
        Check.badState("the ninth", () -> x.node(7, COLUMN));
        Check.same("one more eighth", x.node(6, COLUMN), 8);
        Check.badState("the ninth in that", () -> x.node(8, BOX));
        Check.same("one more seventh", x.node(5, COLUMN), 9);
        Check.same("an eighth in that", x.node(9, COLUMN), 10);
        Check.badState("the ninth in that one", () -> x.node(10, BOX));
    }

    private static void insideOneAnotherOfEachKind() {
        for (int holder = COLUMN; holder <= GRID; holder++) {
            for (int kind = BOX; kind <= GRID; kind++) {
                StretchedRows x = tower(7);
                int eighth = x.node(6, holder);
                int k = kind;
                Check.badState("the ninth, of kind " + kind + " in kind " + holder, () -> x.node(eighth, k));
                Check.same("the eighth, of kind " + kind, x.node(6, kind), 8);
            }
        }
    }

    private static void depthIsOfWhatIsThere() {
        StretchedRows x = tower(8);
        x.remove(4);
        Check.same("the fifth again", x.node(3, ROW), 8);
        Check.same("the sixth", x.node(8, ROW), 9);
        Check.same("the seventh", x.node(9, ROW), 10);
        Check.same("the eighth", x.node(10, ROW), 11);
        Check.badState("the ninth", () -> x.node(11, BOX));
        x.remove(0);
        x.node(NONE, ROW);
        Check.same("the second, in a new root", x.node(12, BOX), 13);
    }

    /** "at most 200 are made" */
    private static void madeInAll() {
        StretchedRows x = new StretchedRows();
        for (int n = 0; n < 198; n++) {
            x.node(NONE, ROW);
            x.remove(n);
        }
        Check.same("the 199th", x.node(NONE, ROW), 198);
        Check.same("the 200th", x.node(198, ROW), 199);
        Check.badState("the 201st", () -> x.node(198, BOX));
        Check.badState("the 201st in another", () -> x.node(199, BOX));
        Check.badArgument("the 201st of a wrong kind", () -> x.node(198, 5));
        Check.badArgument("the 201st in what is gone", () -> x.node(197, BOX));
        Check.same("nodes()", x.nodes(), 2);
        x.set(198, PAD, 5);
        Check.same("the last two are laid out", x.layout(50), 10);
        Check.same("the 200th is laid out", x.where(199, LEFT), 5);
        Check.same("both go", x.remove(198), 2);
        Check.badState("a root as the 201st", () -> x.node(NONE, BOX));
        Check.badArgument("in no root", () -> x.node(198, BOX));
    }

    private static void refusedOnesAreNotMade() {
        StretchedRows x = withThere(24);
        for (int k = 0; k < 200; k++) {
            Check.badState("the 25th", () -> x.node(0, BOX));
        }
        x.remove(23);
        Check.same("its number comes next", x.node(0, BOX), 24);
    }

    /** "NODES have numbers 0, 1, .. as they are made, never the same one again" */
    private static void neverTheSameNumber() {
        StretchedRows x = holding(ROW, 1, 2, 3);
        x.remove(3);
        Check.same("the last was taken away", x.node(0, BOX), 4);
        x.remove(1);
        Check.same("the first was taken away", x.node(0, BOX), 5);
        x.remove(0);
        Check.same("all were taken away", x.node(NONE, ROW), 6);
        Check.badArgument("the root has not number 0 again", () -> x.natural(0));
    }

    /** "A TEXT has at most 12 WORDS"; "IllegalStateException when it has 12" */
    private static void wordsOfAText() {
        StretchedRows x = holding(COLUMN);
        x.node(0, TEXT);
        x.node(0, TEXT);
        for (int k = 1; k <= 12; k++) {
            Check.same("how many words then", x.word(1, 10), k);
        }
        Check.badState("the 13th", () -> x.word(1, 10));
        Check.badState("the 13th, asked for again", () -> x.word(1, 1));
        Check.badArgument("the 13th, of a wrong width", () -> x.word(1, 201));
        Check.same("all twelve count", x.natural(1), 12 * 10 + 11 * 4);
        Check.same("another text has its own", x.word(2, 10), 1);
        x.layout(10);
        Check.same("twelve lines", x.lines(1), 12);
    }

    /** "A GRID has at most 4 TRACKS"; "IllegalStateException when it has 4" */
    private static void tracksOfAGrid() {
        StretchedRows x = holding(COLUMN);
        x.node(0, GRID);
        x.node(0, GRID);
        for (int k = 1; k <= 4; k++) {
            Check.same("how many tracks then", x.track(1, k % 2 == 0, 10), k);
        }
        Check.badState("a fifth that is fixed", () -> x.track(1, false, 10));
        Check.badState("a fifth that is a share", () -> x.track(1, true, 10));
        Check.badArgument("a fifth of a wrong number", () -> x.track(1, true, -1));
        Check.same("all four count", x.natural(1), 20);
        Check.same("another grid has its own", x.track(2, false, 7), 1);
        for (int n = 3; n < 8; n++) {
            x.node(1, BOX);
        }
        x.layout(100);
        Check.same("the fifth child is in the second line", x.lines(1), 2);
    }

    /** "width is not 1 .. 200" */
    private static void widthsOfWords() {
        StretchedRows x = text();
        for (int width : new int[] {0, -1, 201, Integer.MIN_VALUE, Integer.MAX_VALUE}) {
            Check.badArgument("a word of " + width, () -> x.word(0, width));
        }
        Check.same("a word of 1", x.word(0, 1), 1);
        Check.same("natural(0)", x.natural(0), 1);
        Check.same("a word of 200", x.word(0, 200), 2);
        Check.same("natural(0)", x.natural(0), 205);
    }

    /** "n is not 0 .. 200" */
    private static void numbersOfTracks() {
        StretchedRows x = holding(GRID);
        for (int n : new int[] {-1, 201, Integer.MIN_VALUE, Integer.MAX_VALUE}) {
            Check.badArgument("fixed at " + n, () -> x.track(0, false, n));
            Check.badArgument("a share of " + n, () -> x.track(0, true, n));
        }
        Check.same("fixed at 0", x.track(0, false, 0), 1);
        Check.same("fixed at 200", x.track(0, false, 200), 2);
        Check.same("natural(0)", x.natural(0), 200);
        Check.same("a share of 0", x.track(0, true, 0), 3);
        Check.same("a share of 200", x.track(0, true, 200), 4);
        Check.same("natural(0) without children", x.natural(0), 200);
    }

    /** "width is not 0 .. 1000" */
    private static void widthsOfLayouts() {
        StretchedRows x = holding(BOX);
        for (int width : new int[] {-1, 1001, Integer.MIN_VALUE, Integer.MAX_VALUE}) {
            Check.badArgument("layout(" + width + ")", () -> x.layout(width));
        }
        Check.notLaidOut(x, 0);
        x.layout(0);
        Check.same("the width of layout(0)", x.where(0, WIDTH), 0);
        x.layout(1000);
        Check.same("the width of layout(1000)", x.where(0, WIDTH), 1000);
    }

    /** "kind is not BOX .. GRID" */
    private static void kinds() {
        StretchedRows x = new StretchedRows();
        for (int kind : new int[] {BOX - 1, GRID + 1, Integer.MIN_VALUE, Integer.MAX_VALUE}) {
            Check.badArgument("a root of kind " + kind, () -> x.node(NONE, kind));
        }
        for (int kind = BOX; kind <= GRID; kind++) {
            Check.same("a root of kind " + kind, x.node(NONE, kind), kind);
            x.remove(kind);
        }
    }

    /** "parent is no container that is there (it must be NONE when no node is there)" */
    private static void parents() {
        StretchedRows x = new StretchedRows();
        for (int parent : new int[] {0, 1, -2, Integer.MIN_VALUE, Integer.MAX_VALUE}) {
            Check.badArgument("in " + parent + ", no node is there", () -> x.node(parent, ROW));
        }
        x.node(NONE, COLUMN);
        for (int kind = BOX; kind <= GRID; kind++) {
            x.node(0, kind);
        }
        for (int parent : new int[] {NONE, -2, 1, 2, 6, Integer.MIN_VALUE, Integer.MAX_VALUE}) {
            Check.badArgument("in " + parent, () -> x.node(parent, ROW));
        }
        for (int parent : new int[] {0, 3, 4, 5}) {
            Check.isTrue("in container " + parent, x.node(parent, BOX) > 5);
        }
        x.set(3, HIDDEN, 1);
        Check.same("in one that is hidden", x.node(3, BOX), 10);
        x.remove(3);
        Check.badArgument("in one that was taken away", () -> x.node(3, BOX));
        Check.badArgument("in one that was in that", () -> x.node(10, BOX));
    }

    /** "IllegalArgumentException when there is no such node", and no such TEXT, GRID */
    private static void nodesThatAreNotThere() {
        StretchedRows x = holding(COLUMN);
        for (int kind = BOX; kind <= GRID; kind++) {
            x.node(0, kind);
        }
        x.node(4, TEXT);
        x.node(4, GRID);
        x.remove(4);
        for (int node : new int[] {NONE, -2, 4, 6, 7, 8, 200, Integer.MIN_VALUE, Integer.MAX_VALUE}) {
            Check.badArgument("remove(" + node + ")", () -> x.remove(node));
            Check.badArgument("set(" + node + ")", () -> x.set(node, PAD, 1));
            Check.badArgument("word(" + node + ")", () -> x.word(node, 1));
            Check.badArgument("track(" + node + ")", () -> x.track(node, true, 1));
            Check.badArgument("natural(" + node + ")", () -> x.natural(node));
        }
        Check.same("nodes()", x.nodes(), 5);
    }

    /** "IllegalArgumentException when there is no such TEXT"; "no such GRID" */
    private static void nodesOfAnotherKind() {
        for (int kind = BOX; kind <= GRID; kind++) {
            StretchedRows x = holding(kind);
            if (kind != TEXT) {
                Check.badArgument("a word of kind " + kind, () -> x.word(0, 1));
            }
            if (kind != GRID) {
                Check.badArgument("a track of kind " + kind, () -> x.track(0, true, 1));
            }
            Check.same("natural of kind " + kind, x.natural(0), 0);
        }
    }

    /** "A node and all whose parents it has are there no more: how many these were." */
    private static void removedInAll() {
        StretchedRows tower = tower(8);
        Check.same("the last of eight", tower.remove(7), 1);
        Check.same("all of seven but the root", tower.remove(1), 6);
        Check.same("the root alone", tower.remove(0), 1);
        Check.same("nodes()", tower.nodes(), 0);
        Check.same("24 at once", withThere(24).remove(0), 24);
        StretchedRows mixed = new StretchedRows();
        mixed.node(NONE, COLUMN);
        mixed.node(0, COLUMN);
        mixed.node(0, COLUMN);
        mixed.node(1, BOX);
        mixed.node(2, ROW);
        mixed.node(1, BOX);
        mixed.node(4, BOX);
        mixed.set(4, HIDDEN, 1);
        Check.same("those that are in another stay", mixed.remove(1), 3);
        Check.same("nodes()", mixed.nodes(), 4);
        Check.same("hidden ones go too", mixed.remove(2), 3);
        Check.same("nodes()", mixed.nodes(), 1);
    }
}
