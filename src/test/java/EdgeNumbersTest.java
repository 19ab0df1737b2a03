import java.util.function.Supplier;
import java.util.function.ToIntFunction;

/** "A node has these NUMBERS (what, from what to what, at first)": each at its first value, its least, its greatest and beyond. */
public final class EdgeNumbersTest extends Scene {
    /** One number of one node in an object, and what is seen of it at its first, its least and its greatest value. */
    private record Bounds(String name, int what, int node, int first, int least, int greatest) {
        void check(Supplier<StretchedRows> scene, ToIntFunction<StretchedRows> look, int atFirst, int atLeast, int atGreatest) {
            StretchedRows x = scene.get();
            Check.same(name + " at first", look.applyAsInt(x), atFirst);
            x.set(node, what, first);
            Check.same(name + " set to its first value", look.applyAsInt(x), atFirst);
            x.set(node, what, least);
            Check.same(name + " at its least", look.applyAsInt(x), atLeast);
            refuses(x);
            Check.same(name + " at its least, after refused ones", look.applyAsInt(x), atLeast);
            x.set(node, what, greatest);
            Check.same(name + " at its greatest", look.applyAsInt(x), atGreatest);
            refuses(x);
            Check.same(name + " at its greatest, after refused ones", look.applyAsInt(x), atGreatest);
        }

        private void refuses(StretchedRows x) {
            for (int v : new int[] {least - 1, greatest + 1, Integer.MIN_VALUE, Integer.MAX_VALUE}) {
                Check.badArgument(name + " " + v, () -> x.set(node, what, v));
            }
        }
    }

    public static void main(String[] args) {
        growAndShrink();
        basisLeastAndMost();
        alignAndJustify();
        order();
        hiddenAndWrap();
        wideHighGapPad();
        whatDoesNotMatter();
        numbersThatAreNone();
        nodesThatAreNone();
        Check.end("EdgeNumbersTest");
    }

    private static int measure(StretchedRows x, int width, int node, int what) {
        x.layout(width);
        return x.where(node, what);
    }

    /** "GROW 0 .. 9, 0; SHRINK 0 .. 9, 1" */
    private static void growAndShrink() {
        new Bounds("GROW", GROW, 1, 0, 0, 9).check(() -> {
            StretchedRows x = holding(ROW, 0, 0);
            x.set(2, GROW, 1);
            return x;
        }, x -> measure(x, 100, 1, WIDTH), 0, 0, 90);
        // 10 lack: by 50 to 50, by 0 to 50, by 450 to 50.
        new Bounds("SHRINK", SHRINK, 1, 1, 0, 9).check(() -> {
            StretchedRows x = holding(ROW, 50, 50);
            x.set(2, SHRINK, 1);
            return x;
        }, x -> measure(x, 90, 1, WIDTH), 45, 50, 41);
    }

    /** "BASIS -1 .. 500, -1; LEAST 0 .. 500, 0; MOST 0 .. 1000, 1000" */
    private static void basisLeastAndMost() {
        new Bounds("BASIS", BASIS, 1, -1, -1, 500).check(() -> holding(ROW, 30), x -> x.natural(0), 30, 30, 500);
        StretchedRows none = holding(ROW, 30);
        none.set(1, BASIS, 0);
        Check.same("BASIS 0 is not as -1", none.natural(0), 0);
        new Bounds("LEAST", LEAST, 1, 0, 0, 500).check(() -> holding(ROW, 0), x -> x.natural(0), 0, 0, 500);
        // 2444 is more than any MOST.
        new Bounds("MOST", MOST, 1, 1000, 0, 1000).check(() -> {
            StretchedRows x = holding(ROW);
            x.node(0, TEXT);
            for (int k = 0; k < 12; k++) {
                x.word(1, 200);
            }
            return x;
        }, x -> x.natural(0), 1000, 0, 1000);
    }

    /** "ALIGN 0 .. 3, STRETCH"; "JUSTIFY 0 .. 3, START" */
    private static void alignAndJustify() {
        new Bounds("ALIGN", ALIGN, 1, STRETCH, STRETCH, END).check(() -> holding(COLUMN, 30),
            x -> measure(x, 100, 1, WIDTH), 100, 100, 30);
        new Bounds("ALIGN, where it lies", ALIGN, 1, STRETCH, STRETCH, END).check(() -> holding(COLUMN, 30),
            x -> measure(x, 100, 1, LEFT), 0, 0, 70);
        new Bounds("JUSTIFY", JUSTIFY, 0, START, BETWEEN, END).check(() -> holding(ROW, 10, 10),
            x -> 1000 * measure(x, 100, 1, LEFT) + x.where(2, LEFT), 10, 90, 80090);
    }

    /** "ORDER -9 .. 9, 0" */
    private static void order() {
        // Beside it: 0 before it, and behind it -9, -8, 0, 1, 8, 9.
        new Bounds("ORDER", ORDER, 2, 0, -9, 9).check(() -> {
            StretchedRows x = holding(ROW, 1, 1, 1, 1, 1, 1, 1, 1);
            setAll(x, ORDER, 0, 0, -9, -8, 0, 1, 8, 9);
            return x;
        }, x -> measure(x, 100, 2, LEFT), 3, 0, 6);
        StretchedRows untouched = holding(ROW, 1, 1, 1);
        setAll(untouched, ORDER, 1);
        untouched.set(3, ORDER, -1);
        laidOut("ORDER is 0 at first", untouched, 100, LEFT, 2, 1, 0);
    }

    /** "HIDDEN 0 .. 1, 0"; "WRAP 0 .. 1, 0" */
    private static void hiddenAndWrap() {
        new Bounds("HIDDEN", HIDDEN, 1, 0, 0, 1).check(() -> {
            StretchedRows x = holding(COLUMN, 1);
            x.set(1, HIGH, 10);
            return x;
        }, x -> x.layout(100), 10, 10, 0);
        new Bounds("WRAP", WRAP, 0, 0, 0, 1).check(() -> holding(ROW, 60, 60), x -> {
            x.layout(100);
            return x.lines(0);
        }, 1, 1, 2);
    }

    /** "WIDE 0 .. 500, 0; HIGH 0 .. 500, 0; GAP 0 .. 50, 0; PAD 0 .. 50, 0" */
    private static void wideHighGapPad() {
        new Bounds("WIDE", WIDE, 0, 0, 0, 500).check(() -> holding(BOX), x -> x.natural(0), 0, 0, 500);
        new Bounds("HIGH", HIGH, 0, 0, 0, 500).check(() -> holding(BOX), x -> x.layout(10), 0, 0, 500);
        for (int kind : new int[] {COLUMN, ROW, GRID}) {
            new Bounds("PAD of kind " + kind, PAD, 0, 0, 0, 50).check(() -> holding(kind, 7), x -> x.natural(0), 7, 7, 107);
            new Bounds("PAD of kind " + kind + ", the height", PAD, 0, 0, 0, 50).check(() -> holding(kind), x -> x.layout(3), 0, 0, 100);
        }
        new Bounds("GAP of a row", GAP, 0, 0, 0, 50).check(() -> holding(ROW, 7, 8, 9), x -> x.natural(0), 24, 24, 124);
        new Bounds("GAP of a column", GAP, 0, 0, 0, 50).check(() -> holding(COLUMN, 7, 8, 9), x -> x.layout(10), 0, 0, 100);
        new Bounds("GAP of a grid", GAP, 0, 0, 0, 50).check(() -> {
            StretchedRows x = holding(GRID, 7, 8, 9);
            x.track(0, true, 1);
            x.track(0, false, 2);
            return x;
        }, x -> 1000 * x.natural(0) + x.layout(10), 11000, 11000, 61050);
    }

    /** "(Each kind of node has all, but not all matter.)" */
    private static void whatDoesNotMatter() {
        int[][] idle = {
            {GAP, PAD, JUSTIFY, WRAP},
            {WIDE, HIGH, GAP, PAD, JUSTIFY, WRAP},
            {WIDE, HIGH, JUSTIFY, WRAP},
            {WIDE, HIGH},
            {WIDE, HIGH, JUSTIFY, WRAP}
        };
        int[] greatest = {9, 9, 500, 500, 1000, 3, 9, 1, 500, 500, 50, 50, 3, 1};
        for (int kind = BOX; kind <= GRID; kind++) {
            String due = seenOf(some(kind));
            StretchedRows x = some(kind);
            for (int what : idle[kind]) {
                x.set(1, what, greatest[what]);
            }
            Check.same("numbers that do not matter in kind " + kind, seenOf(x), due);
        }
        StretchedRows x = some(COLUMN);
        String due = seenOf(some(COLUMN));
        for (int what : new int[] {GROW, SHRINK, BASIS, ALIGN, ORDER}) {
            x.set(0, what, greatest[what]);
        }
        for (int what : new int[] {GROW, SHRINK, ORDER}) {
            x.set(1, what, greatest[what]);
        }
        Check.same("numbers that do not matter in a root and in the one child of a column", seenOf(x), due);
    }

    /** A column with a node of this kind and, in that if it can be, or behind it, two boxes. */
    private static StretchedRows some(int kind) {
        StretchedRows x = holding(COLUMN);
        x.node(0, kind);
        for (int n = 2; n <= 3; n++) {
            x.node(kind >= COLUMN ? 1 : 0, BOX);
            x.set(n, WIDE, 10 * n);
            x.set(n, HIGH, 5 * n);
        }
        if (kind == BOX) {
            x.set(1, WIDE, 25);
            x.set(1, HIGH, 8);
        }
        if (kind == TEXT) {
            x.word(1, 25);
            x.word(1, 15);
        }
        return x;
    }

    private static String seenOf(StretchedRows x) {
        StringBuilder all = new StringBuilder();
        for (int width : new int[] {30, 100}) {
            all.append(x.layout(width)).append(' ');
            for (int n = 0; n < 4; n++) {
                all.append(n).append(": ").append(x.natural(n)).append(' ').append(x.lines(n));
                for (int what = LEFT; what <= HEIGHT; what++) {
                    all.append(' ').append(x.where(n, what));
                }
                all.append('\n');
            }
        }
        return all.toString();
    }

    /** "IllegalArgumentException when there is no such .. number" */
    private static void numbersThatAreNone() {
        for (int kind = BOX; kind <= GRID; kind++) {
            StretchedRows x = holding(kind);
            for (int what : new int[] {GROW - 1, WRAP + 1, Integer.MIN_VALUE, Integer.MAX_VALUE}) {
                Check.badArgument("number " + what + " of kind " + kind, () -> x.set(0, what, 0));
            }
        }
    }

    /** "IllegalArgumentException when there is no such node" */
    private static void nodesThatAreNone() {
        StretchedRows x = holding(COLUMN, 1, 2);
        x.remove(1);
        for (int node : new int[] {NONE, 1, 3, Integer.MIN_VALUE, Integer.MAX_VALUE}) {
            Check.badArgument("set of node " + node, () -> x.set(node, WIDE, 1));
        }
        x.set(2, WIDE, 9);
        Check.same("the one that is there", x.natural(2), 9);
    }
}
