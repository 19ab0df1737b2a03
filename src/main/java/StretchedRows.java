/**
 * Boxes in boxes: texts that are broken into lines, rows that stretch or shrink what is in them,
 * columns, and grids; where each box lies and how large it is for a given width.
 */
public final class StretchedRows {
    public static final int NONE = -1;
    public static final int BOX = 0, TEXT = 1, COLUMN = 2, ROW = 3, GRID = 4;
    public static final int GROW = 0, SHRINK = 1, BASIS = 2, LEAST = 3, MOST = 4, ALIGN = 5, ORDER = 6, HIDDEN = 7, WIDE = 8, HIGH = 9, GAP = 10, PAD = 11, JUSTIFY = 12, WRAP = 13;
    public static final int STRETCH = 0, START = 1, CENTRE = 2, END = 3, BETWEEN = 0;

    private static final int MOST_THERE = 24;
    private static final int MOST_MADE = 200;
    private static final int MOST_DEPTH = 8;
    private static final int MOST_WORDS = 12;
    private static final int MOST_TRACKS = 4;
    private static final int WIDEST_WORD = 200;
    private static final int LARGEST_TRACK = 200;
    private static final int WIDEST_LAYOUT = 1000;
    private static final int WORD_GAP = 4;
    private static final int TEXT_LINE_HEIGHT = 10;

    // One entry for each number, in the order GROW .. WRAP.
    private static final int[] LOWEST = {0, 0, -1, 0, 0, 0, -9, 0, 0, 0, 0, 0, 0, 0};
    private static final int[] HIGHEST = {9, 9, 500, 500, 1000, 3, 9, 1, 500, 500, 50, 50, 3, 1};
    private static final int[] AT_FIRST = {0, 1, -1, 0, 1000, 0, 0, 0, 0, 0, 0, 0, 1, 0};

    // By rising number. A parent is made before what is in it, so going through this forwards
    // meets every parent before its children, and backwards every child before its parent:
    // that is why no pass over the tree needs recursion.
    private final Node[] there;
    private int thereCount;
    private int madeCount;

    public StretchedRows() {
        there = new Node[MOST_THERE];
        thereCount = 0;
        madeCount = 0;
    }

    public int node(int parent, int kind) throws IllegalArgumentException, IllegalStateException {
        if (isOutside(kind, BOX, GRID)) {
            throw new IllegalArgumentException("no such kind");
        }
        Container container = findContainer(parent);
        if (thereCount == 0 ? parent != NONE : container == null) {
            throw new IllegalArgumentException("no such parent");
        }
        int depth = container == null ? 1 : container.depth + 1;
        if (thereCount >= MOST_THERE || madeCount >= MOST_MADE || depth > MOST_DEPTH) {
            throw new IllegalStateException("no room for a node");
        }
        Node made = newNode(kind, madeCount, container, depth);
        there[thereCount] = made;
        thereCount++;
        madeCount++;
        return made.number;
    }

    public int remove(int node) throws IllegalArgumentException {
        Node first = findNode(node);
        if (first == null) {
            throw new IllegalArgumentException("no such node");
        }
        first.takeAway();
        int before = thereCount;
        int kept = 0;
        for (int i = 0; i < before; i++) {
            Node each = there[i];
            there[i] = null;
            if (each.parent != null && each.parent.takenAway) {
                each.takeAway();
            }
            if (!each.takenAway) {
                there[kept] = each;
                kept++;
            }
        }
        thereCount = kept;
        return before - kept;
    }

    public void set(int node, int what, int v) throws IllegalArgumentException {
        Node found = findNode(node);
        if (found == null) {
            throw new IllegalArgumentException("no such node");
        }
        if (isOutside(what, GROW, WRAP)) {
            throw new IllegalArgumentException("no such number");
        }
        if (isOutside(v, LOWEST[what], HIGHEST[what])) {
            throw new IllegalArgumentException("the number is out of its range");
        }
        found.numbers[what] = v;
    }

    public int word(int node, int width) throws IllegalArgumentException, IllegalStateException {
        if (findNode(node) instanceof Text text) {
            if (isOutside(width, 1, WIDEST_WORD)) {
                throw new IllegalArgumentException("the width is out of its range");
            }
            if (text.wordCount >= MOST_WORDS) {
                throw new IllegalStateException("no room for a word");
            }
            text.addWord(width);
            return text.wordCount;
        }
        throw new IllegalArgumentException("no such text");
    }

    public int track(int node, boolean share, int n) throws IllegalArgumentException, IllegalStateException {
        if (findNode(node) instanceof Grid grid) {
            if (isOutside(n, 0, LARGEST_TRACK)) {
                throw new IllegalArgumentException("the number is out of its range");
            }
            if (grid.trackCount >= MOST_TRACKS) {
                throw new IllegalStateException("no room for a track");
            }
            grid.addTrack(share, n);
            return grid.trackCount;
        }
        throw new IllegalArgumentException("no such grid");
    }

    public int layout(int width) throws IllegalArgumentException, IllegalStateException {
        if (isOutside(width, 0, WIDEST_LAYOUT)) {
            throw new IllegalArgumentException("the width is out of its range");
        }
        if (thereCount == 0 || there[0].isHidden()) {
            throw new IllegalStateException("nothing to lay out");
        }
        measureAll();
        forgetLayout();
        Node root = there[0];
        root.laidOut = true;
        root.width = root.clamped(width);
        root.left = 0;
        root.top = 0;
        for (int i = 0; i < thereCount; i++) {
            if (there[i].laidOut) {
                there[i].spread();
            }
        }
        for (int i = thereCount - 1; i >= 0; i--) {
            if (there[i].laidOut) {
                there[i].stack();
            }
        }
        for (int i = 0; i < thereCount; i++) {
            if (there[i].laidOut) {
                there[i].place();
            }
        }
        return root.height;
    }

    public int where(int node, int what) throws IllegalArgumentException {
        Node found = findLaidOut(node);
        if (found == null) {
            throw new IllegalArgumentException("the node is not laid out");
        }
        switch (what) {
            case 0:
                return found.left;
            case 1:
                return found.top;
            case 2:
                return found.width;
            case 3:
                return found.height;
            default:
                throw new IllegalArgumentException("no such measure");
        }
    }

    public int lines(int node) throws IllegalArgumentException {
        Node found = findLaidOut(node);
        if (found == null) {
            throw new IllegalArgumentException("the node is not laid out");
        }
        return found.brokenInto();
    }

    public int at(int x, int y) {
        if (thereCount == 0 || !there[0].covers(x, y)) {
            return NONE;
        }
        Node found = there[0];
        Node next = found;
        for (int depth = 1; depth <= MOST_DEPTH && next != null; depth++) {
            found = next;
            next = found.lastChildAt(x, y);
        }
        return found.number;
    }

    public int natural(int node) throws IllegalArgumentException {
        Node found = findNode(node);
        if (found == null) {
            throw new IllegalArgumentException("no such node");
        }
        measureAll();
        return found.naturalWidth;
    }

    public int nodes() {
        return thereCount;
    }

    private static boolean isOutside(int v, int lowest, int highest) {
        return v < lowest || v > highest;
    }

    private Node findNode(int number) {
        for (int i = 0; i < thereCount; i++) {
            if (there[i].number == number) {
                return there[i];
            }
        }
        return null;
    }

    private Container findContainer(int number) {
        if (findNode(number) instanceof Container container) {
            return container;
        }
        return null;
    }

    private Node findLaidOut(int number) {
        Node found = findNode(number);
        return found != null && found.laidOut ? found : null;
    }

    private static Node newNode(int kind, int number, Container parent, int depth) {
        switch (kind) {
            case TEXT:
                return new Text(number, parent, depth);
            case COLUMN:
                return new Column(number, parent, depth);
            case ROW:
                return new Row(number, parent, depth);
            case GRID:
                return new Grid(number, parent, depth);
            default:
                return new Box(number, parent, depth);
        }
    }

    private void measureAll() {
        gatherChildren();
        for (int i = thereCount - 1; i >= 0; i--) {
            there[i].measure();
        }
    }

    private void gatherChildren() {
        for (int i = 0; i < thereCount; i++) {
            Node each = there[i];
            if (each instanceof Container container) {
                container.shownCount = 0;
            }
            if (each.parent != null && !each.isHidden()) {
                each.parent.show(each);
            }
        }
    }

    private void forgetLayout() {
        for (int i = 0; i < thereCount; i++) {
            there[i].laidOut = false;
        }
    }

    // STRETCH and BETWEEN shift nothing here: what they do besides is their callers' affair.
    private static int shiftWithin(int free, int how) {
        switch (how) {
            case CENTRE:
                return Math.floorDiv(free, 2);
            case END:
                return free;
            default:
                return 0;
        }
    }

    private abstract static class Node {
        final int number;
        final Container parent;
        final int depth;
        final int[] numbers;
        boolean takenAway;

        // As of the latest measuring, which natural() does too: never read as a layout's outcome.
        int naturalWidth;
        int base;
        int hypo;

        // As of the latest layout; left and top count from the parent until all are placed.
        boolean laidOut;
        int left;
        int top;
        int width;
        int height;

        Node(int number, Container parent, int depth) {
            this.number = number;
            this.parent = parent;
            this.depth = depth;
            this.numbers = AT_FIRST.clone();
        }

        abstract int findNaturalWidth();

        abstract void stack();

        void spread() {
        }

        int brokenInto() {
            return 0;
        }

        Node lastChildAt(int x, int y) {
            return null;
        }

        final boolean isHidden() {
            return numbers[HIDDEN] == 1;
        }

        final void takeAway() {
            takenAway = true;
            laidOut = false;
        }

        final void measure() {
            naturalWidth = findNaturalWidth();
            base = numbers[BASIS] == -1 ? naturalWidth : numbers[BASIS];
            hypo = clamped(base);
        }

        // LEAST comes last, so it wins where it is more than MOST.
        final int clamped(int wanted) {
            return Math.max(Math.min(wanted, numbers[MOST]), numbers[LEAST]);
        }

        final void place() {
            if (parent != null) {
                left += parent.left;
                top += parent.top;
            }
        }

        final boolean covers(int x, int y) {
            return laidOut && x >= left && x < left + width && y >= top && y < top + height;
        }
    }

    private static final class Box extends Node {
        Box(int number, Container parent, int depth) {
            super(number, parent, depth);
        }

        int findNaturalWidth() {
            return numbers[WIDE];
        }

        void stack() {
            height = numbers[HIGH];
        }
    }

    private static final class Text extends Node {
        final int[] words;
        int wordCount;
        int lineCount;

        Text(int number, Container parent, int depth) {
            super(number, parent, depth);
            words = new int[MOST_WORDS];
        }

        void addWord(int wordWidth) {
            words[wordCount] = wordWidth;
            wordCount++;
        }

        int findNaturalWidth() {
            int sum = 0;
            for (int i = 0; i < wordCount; i++) {
                sum += i == 0 ? words[i] : WORD_GAP + words[i];
            }
            return sum;
        }

        void stack() {
            lineCount = 0;
            int used = 0;
            for (int i = 0; i < wordCount; i++) {
                if (i == 0 || used + WORD_GAP + words[i] > width) {
                    lineCount++;
                    used = words[i];
                } else {
                    used += WORD_GAP + words[i];
                }
            }
            height = lineCount * TEXT_LINE_HEIGHT;
        }

        int brokenInto() {
            return lineCount;
        }
    }

    private abstract static class Container extends Node {
        // The children as they are now, and as they were when they were laid out last:
        // at() must not see a later change of ORDER or HIDDEN.
        final Node[] shown;
        int shownCount;
        final Node[] laid;
        int laidCount;

        // Line i holds the laid children from the end of the line before up to before lineEnds[i].
        final int[] lineEnds;
        int lineCount;
        int inner;

        Container(int number, Container parent, int depth) {
            super(number, parent, depth);
            shown = new Node[MOST_THERE];
            laid = new Node[MOST_THERE];
            lineEnds = new int[MOST_THERE];
        }

        abstract int findNaturalInside();

        abstract void breakLines();

        abstract void spreadChildren();

        // Nodes come by rising number, so one of equal ORDER stays behind those already here.
        final void show(Node child) {
            int k = shownCount;
            while (k > 0 && shown[k - 1].numbers[ORDER] > child.numbers[ORDER]) {
                shown[k] = shown[k - 1];
                k--;
            }
            shown[k] = child;
            shownCount++;
        }

        final int gapsAmong(int count) {
            return count > 1 ? (count - 1) * numbers[GAP] : 0;
        }

        final int findNaturalWidth() {
            return findNaturalInside() + 2 * numbers[PAD];
        }

        final void spread() {
            inner = Math.max(width - 2 * numbers[PAD], 0);
            laidCount = shownCount;
            for (int k = 0; k < laidCount; k++) {
                laid[k] = shown[k];
                laid[k].laidOut = true;
            }
            lineCount = 0;
            breakLines();
            spreadChildren();
        }

        final void putInLine(int k, boolean opensLine) {
            if (opensLine || lineCount == 0) {
                lineCount++;
            }
            lineEnds[lineCount - 1] = k + 1;
        }

        final void stack() {
            int y = numbers[PAD];
            int first = 0;
            for (int line = 0; line < lineCount; line++) {
                int end = lineEnds[line];
                int high = greatestHeight(first, end);
                for (int k = first; k < end; k++) {
                    alignInLine(laid[k], y, high);
                }
                y += line + 1 < lineCount ? high + numbers[GAP] : high;
                first = end;
            }
            height = y + numbers[PAD];
        }

        private int greatestHeight(int first, int end) {
            int greatest = 0;
            for (int k = first; k < end; k++) {
                greatest = Math.max(greatest, laid[k].height);
            }
            return greatest;
        }

        // Serves a COLUMN too: alone in its line a child fills it, so ALIGN moves nothing.
        private static void alignInLine(Node child, int lineTop, int lineHeight) {
            int how = child.numbers[ALIGN];
            child.top = lineTop + shiftWithin(lineHeight - child.height, how);
            if (how == STRETCH) {
                child.height = lineHeight;
            }
        }

        final Node lastChildAt(int x, int y) {
            for (int k = laidCount - 1; k >= 0; k--) {
                if (laid[k].covers(x, y)) {
                    return laid[k];
                }
            }
            return null;
        }
    }

    private static final class Column extends Container {
        Column(int number, Container parent, int depth) {
            super(number, parent, depth);
        }

        int findNaturalInside() {
            int greatest = 0;
            for (int k = 0; k < shownCount; k++) {
                greatest = Math.max(greatest, shown[k].hypo);
            }
            return greatest;
        }

        void breakLines() {
            for (int k = 0; k < laidCount; k++) {
                putInLine(k, true);
            }
        }

        void spreadChildren() {
            for (int k = 0; k < laidCount; k++) {
                Node child = laid[k];
                int how = child.numbers[ALIGN];
                child.width = how == STRETCH ? child.clamped(inner) : child.hypo;
                child.left = numbers[PAD] + shiftWithin(inner - child.width, how);
            }
        }
    }

    private static final class Row extends Container {
        final Shares shares;
        final int[] asked;
        final boolean[] settled;

        Row(int number, Container parent, int depth) {
            super(number, parent, depth);
            shares = new Shares(MOST_THERE);
            asked = new int[MOST_THERE];
            settled = new boolean[MOST_THERE];
        }

        int findNaturalInside() {
            int sum = gapsAmong(shownCount);
            for (int k = 0; k < shownCount; k++) {
                sum += shown[k].hypo;
            }
            return sum;
        }

        int brokenInto() {
            return lineCount;
        }

        void breakLines() {
            int used = 0;
            for (int k = 0; k < laidCount; k++) {
                int longer = used + numbers[GAP] + laid[k].hypo;
                boolean opensLine = k == 0 || numbers[WRAP] == 1 && longer > inner;
                putInLine(k, opensLine);
                used = opensLine ? laid[k].hypo : longer;
            }
        }

        void spreadChildren() {
            int first = 0;
            for (int line = 0; line < lineCount; line++) {
                int end = lineEnds[line];
                fitLine(first, end);
                justifyLine(first, end);
                first = end;
            }
        }

        private void fitLine(int first, int end) {
            int room = inner - gapsAmong(end - first);
            int hypos = 0;
            for (int k = first; k < end; k++) {
                laid[k].width = laid[k].hypo;
                hypos += laid[k].hypo;
            }
            boolean grows = hypos < room;
            settleFixed(first, end, grows);
            // Each round settles one at least, so there are no more rounds than children.
            for (int round = first; round < end && hasUnsettled(first, end); round++) {
                settleRound(first, end, room, grows);
            }
        }

        private void settleFixed(int first, int end, boolean grows) {
            for (int k = first; k < end; k++) {
                Node child = laid[k];
                if (grows) {
                    settled[k] = child.numbers[GROW] == 0 || child.base > child.hypo;
                } else {
                    settled[k] = child.numbers[SHRINK] == 0 || child.base < child.hypo;
                }
            }
        }

        private boolean hasUnsettled(int first, int end) {
            for (int k = first; k < end; k++) {
                if (!settled[k]) {
                    return true;
                }
            }
            return false;
        }

        private void settleRound(int first, int end, int room, boolean grows) {
            int rest = room;
            for (int k = first; k < end; k++) {
                rest -= settled[k] ? laid[k].width : laid[k].base;
                shares.weights[k] = settled[k] ? 0 : weightOf(laid[k], grows);
            }
            shares.deal(grows ? rest : -rest, first, end);
            int added = 0;
            for (int k = first; k < end; k++) {
                if (!settled[k]) {
                    Node child = laid[k];
                    asked[k] = grows ? child.base + shares.parts[k] : child.base - shares.parts[k];
                    child.width = child.clamped(asked[k]);
                    added += child.width - asked[k];
                }
            }
            settleClamped(first, end, added);
        }

        private static long weightOf(Node child, boolean grows) {
            return grows ? child.numbers[GROW] : (long) child.numbers[SHRINK] * child.base;
        }

        private void settleClamped(int first, int end, int added) {
            for (int k = first; k < end; k++) {
                if (!settled[k]) {
                    int change = laid[k].width - asked[k];
                    settled[k] = added == 0 || added > 0 && change > 0 || added < 0 && change < 0;
                }
            }
        }

        private void justifyLine(int first, int end) {
            int count = end - first;
            int free = inner - gapsAmong(count);
            for (int k = first; k < end; k++) {
                free -= laid[k].width;
            }
            free = Math.max(free, 0);
            int x = numbers[PAD];
            for (int k = first; k < end; k++) {
                laid[k].left = x + justifyShift(free, k - first, count);
                x += laid[k].width + numbers[GAP];
            }
        }

        private int justifyShift(int free, int k, int count) {
            if (numbers[JUSTIFY] == BETWEEN) {
                return count > 1 ? free * k / (count - 1) : 0;
            }
            return shiftWithin(free, numbers[JUSTIFY]);
        }
    }

    private static final class Grid extends Container {
        final boolean[] isShare;
        final int[] trackNumbers;
        final int[] trackWidths;
        int trackCount;
        final Shares shares;

        Grid(int number, Container parent, int depth) {
            super(number, parent, depth);
            isShare = new boolean[MOST_TRACKS];
            trackNumbers = new int[MOST_TRACKS];
            trackWidths = new int[MOST_TRACKS];
            shares = new Shares(MOST_TRACKS);
            // The one track that a grid without tracks is as if it had; the first real one replaces it.
            isShare[0] = true;
            trackNumbers[0] = 1;
        }

        void addTrack(boolean share, int n) {
            isShare[trackCount] = share;
            trackNumbers[trackCount] = n;
            trackCount++;
        }

        private int tracksInUse() {
            return Math.max(trackCount, 1);
        }

        int findNaturalInside() {
            int tracks = tracksInUse();
            int sum = gapsAmong(tracks);
            for (int t = 0; t < tracks; t++) {
                sum += isShare[t] ? greatestHypo(t, tracks) : trackNumbers[t];
            }
            return sum;
        }

        private int greatestHypo(int track, int tracks) {
            int greatest = 0;
            for (int k = track; k < shownCount; k += tracks) {
                greatest = Math.max(greatest, shown[k].hypo);
            }
            return greatest;
        }

        int brokenInto() {
            return lineCount;
        }

        void breakLines() {
            int tracks = tracksInUse();
            for (int k = 0; k < laidCount; k++) {
                putInLine(k, k % tracks == 0);
            }
        }

        void spreadChildren() {
            widenTracks();
            int tracks = tracksInUse();
            int x = numbers[PAD];
            for (int t = 0; t < tracks; t++) {
                for (int k = t; k < laidCount; k += tracks) {
                    laid[k].width = laid[k].clamped(trackWidths[t]);
                    laid[k].left = x;
                }
                x += trackWidths[t] + numbers[GAP];
            }
        }

        private void widenTracks() {
            int tracks = tracksInUse();
            int rest = inner - gapsAmong(tracks);
            for (int t = 0; t < tracks; t++) {
                rest -= isShare[t] ? 0 : trackNumbers[t];
                shares.weights[t] = isShare[t] ? trackNumbers[t] : 0;
            }
            shares.deal(rest, 0, tracks);
            for (int t = 0; t < tracks; t++) {
                trackWidths[t] = isShare[t] ? shares.parts[t] : trackNumbers[t];
            }
        }
    }

    /** Deals a whole amount out by weights, as rows that grow, rows that shrink and grids all do. */
    private static final class Shares {
        final long[] weights;
        final int[] parts;

        Shares(int most) {
            weights = new long[most];
            parts = new int[most];
        }

        // The weights are long because SHRINK times a base times what lacks is beyond an int.
        void deal(int amount, int first, int end) {
            long sum = 0;
            for (int k = first; k < end; k++) {
                sum += weights[k];
            }
            int left = Math.max(amount, 0);
            int whole = left;
            for (int k = first; k < end; k++) {
                parts[k] = sum > 0 ? (int) (whole * weights[k] / sum) : 0;
                left -= parts[k];
            }
            for (int k = first; k < end && left > 0; k++) {
                if (weights[k] > 0) {
                    parts[k]++;
                    left--;
                }
            }
        }
    }
}
