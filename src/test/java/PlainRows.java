import java.util.ArrayList;
import java.util.Comparator;
import java.util.HashMap;
import java.util.List;
import java.util.Map;
import java.util.TreeMap;

/**
 * The document once more, as literally as it can be written down, with recursion, lists and maps:
 * what RandomRunsTest holds StretchedRows against. It shares no code with it.
 */
final class PlainRows {
    private static final int GROW = 0, SHRINK = 1, BASIS = 2, LEAST = 3, MOST = 4, ALIGN = 5, ORDER = 6, HIDDEN = 7,
        WIDE = 8, HIGH = 9, GAP = 10, PAD = 11, JUSTIFY = 12, WRAP = 13;
    private static final int[][] RANGES = {
        {0, 9, 0}, {0, 9, 1}, {-1, 500, -1}, {0, 500, 0}, {0, 1000, 1000}, {0, 3, 0}, {-9, 9, 0}, {0, 1, 0},
        {0, 500, 0}, {0, 500, 0}, {0, 50, 0}, {0, 50, 0}, {0, 3, 1}, {0, 1, 0}
    };

    private static final class Thing {
        int number;
        int kind;
        Thing parent;
        int[] v = new int[14];
        List<Integer> words = new ArrayList<>();
        List<Integer> trackNumbers = new ArrayList<>();
        List<Boolean> trackShares = new ArrayList<>();
    }

    private static final class Laid {
        Thing thing;
        long left;
        long top;
        long width;
        long height;
        int lines;
        List<Laid> children = new ArrayList<>();
    }

    private final TreeMap<Integer, Thing> things = new TreeMap<>();
    private int made = 0;
    private Laid rootLaid = null;
    private Map<Integer, Laid> laid = new HashMap<>();

    int node(int parent, int kind) {
        boolean parentOk = things.isEmpty() ? parent == -1 : things.containsKey(parent) && things.get(parent).kind >= 2;
        if (kind < 0 || kind > 4 || !parentOk) {
            throw new IllegalArgumentException();
        }
        int above = 0;
        for (Thing t = things.get(parent); t != null; t = t.parent) {
            above++;
        }
        if (things.size() == 24 || made == 200 || above == 8) {
            throw new IllegalStateException();
        }
        Thing t = new Thing();
        t.number = made++;
        t.kind = kind;
        t.parent = things.get(parent);
        for (int what = 0; what < 14; what++) {
            t.v[what] = RANGES[what][2];
        }
        things.put(t.number, t);
        return t.number;
    }

    int remove(int node) {
        there(node);
        List<Integer> gone = new ArrayList<>();
        for (Thing t : things.values()) {
            for (Thing up = t; up != null; up = up.parent) {
                if (up.number == node) {
                    gone.add(t.number);
                }
            }
        }
        for (int number : gone) {
            things.remove(number);
            laid.remove(number);
        }
        return gone.size();
    }

    void set(int node, int what, int v) {
        Thing t = there(node);
        if (what < 0 || what > 13 || v < RANGES[what][0] || v > RANGES[what][1]) {
            throw new IllegalArgumentException();
        }
        t.v[what] = v;
    }

    int word(int node, int width) {
        Thing t = there(node);
        if (t.kind != 1 || width < 1 || width > 200) {
            throw new IllegalArgumentException();
        }
        if (t.words.size() == 12) {
            throw new IllegalStateException();
        }
        t.words.add(width);
        return t.words.size();
    }

    int track(int node, boolean share, int n) {
        Thing t = there(node);
        if (t.kind != 4 || n < 0 || n > 200) {
            throw new IllegalArgumentException();
        }
        if (t.trackNumbers.size() == 4) {
            throw new IllegalStateException();
        }
        t.trackNumbers.add(n);
        t.trackShares.add(share);
        return t.trackNumbers.size();
    }

    int layout(int width) {
        if (width < 0 || width > 1000) {
            throw new IllegalArgumentException();
        }
        if (things.isEmpty() || things.firstEntry().getValue().v[HIDDEN] == 1) {
            throw new IllegalStateException();
        }
        Thing root = things.firstEntry().getValue();
        rootLaid = lay(root, clamp(root, width));
        laid = new HashMap<>();
        keep(rootLaid, 0, 0);
        return (int) rootLaid.height;
    }

    private void keep(Laid l, long left, long top) {
        l.left += left;
        l.top += top;
        laid.put(l.thing.number, l);
        for (Laid child : l.children) {
            keep(child, l.left, l.top);
        }
    }

    int where(int node, int what) {
        Laid l = laid.get(node);
        if (l == null || what < 0 || what > 3) {
            throw new IllegalArgumentException();
        }
        return (int) List.of(l.left, l.top, l.width, l.height).get(what).longValue();
    }

    int lines(int node) {
        if (!laid.containsKey(node)) {
            throw new IllegalArgumentException();
        }
        return laid.get(node).lines;
    }

    int at(int x, int y) {
        return laid.isEmpty() || !has(rootLaid, x, y) ? -1 : deepest(rootLaid, x, y);
    }

    private int deepest(Laid l, int x, int y) {
        Laid last = null;
        for (Laid child : l.children) {
            if (laid.containsKey(child.thing.number) && has(child, x, y)) {
                last = child;
            }
        }
        return last == null ? l.thing.number : deepest(last, x, y);
    }

    private static boolean has(Laid l, int x, int y) {
        return l.left <= x && x < l.left + l.width && l.top <= y && y < l.top + l.height;
    }

    int natural(int node) {
        return (int) naturalOf(there(node));
    }

    int nodes() {
        return things.size();
    }

    private Thing there(int node) {
        if (!things.containsKey(node)) {
            throw new IllegalArgumentException();
        }
        return things.get(node);
    }

    private List<Thing> childrenOf(Thing parent) {
        List<Thing> children = new ArrayList<>();
        for (Thing t : things.values()) {
            if (t.parent == parent && t.v[HIDDEN] == 0) {
                children.add(t);
            }
        }
        children.sort(Comparator.<Thing>comparingInt(t -> t.v[ORDER]).thenComparingInt(t -> t.number));
        return children;
    }

    private static long clamp(Thing t, long width) {
        long w = width;
        if (w > t.v[MOST]) {
            w = t.v[MOST];
        }
        if (w < t.v[LEAST]) {
            w = t.v[LEAST];
        }
        return w;
    }

    private long naturalOf(Thing t) {
        List<Thing> children = childrenOf(t);
        long sum = 0;
        switch (t.kind) {
            case 0:
                return t.v[WIDE];
            case 1:
                for (int word : t.words) {
                    sum += word;
                }
                return sum + 4L * Math.max(0, t.words.size() - 1);
            case 2:
                for (Thing child : children) {
                    sum = Math.max(sum, hypo(child));
                }
                return sum + 2 * t.v[PAD];
            case 3:
                for (Thing child : children) {
                    sum += hypo(child);
                }
                return sum + (long) t.v[GAP] * Math.max(0, children.size() - 1) + 2 * t.v[PAD];
            default:
                List<Integer> numbers = trackNumbers(t);
                List<Boolean> shares = trackShares(t);
                for (int i = 0; i < numbers.size(); i++) {
                    long greatest = 0;
                    for (int k = 0; k < children.size(); k++) {
                        if (k % numbers.size() == i) {
                            greatest = Math.max(greatest, hypo(children.get(k)));
                        }
                    }
                    sum += shares.get(i) ? greatest : numbers.get(i);
                }
                return sum + (long) t.v[GAP] * (numbers.size() - 1) + 2 * t.v[PAD];
        }
    }

    private static List<Integer> trackNumbers(Thing t) {
        return t.trackNumbers.isEmpty() ? List.of(1) : t.trackNumbers;
    }

    private static List<Boolean> trackShares(Thing t) {
        return t.trackShares.isEmpty() ? List.of(true) : t.trackShares;
    }

    private long base(Thing t) {
        return t.v[BASIS] == -1 ? naturalOf(t) : t.v[BASIS];
    }

    private long hypo(Thing t) {
        return clamp(t, base(t));
    }

    private Laid lay(Thing t, long width) {
        Laid l = new Laid();
        l.thing = t;
        l.width = width;
        long inner = Math.max(0, width - 2 * t.v[PAD]);
        switch (t.kind) {
            case 0:
                l.height = t.v[HIGH];
                break;
            case 1:
                layText(l);
                break;
            case 2:
                layColumn(l, inner);
                break;
            case 3:
                layRow(l, inner);
                break;
            default:
                layGrid(l, inner);
                break;
        }
        return l;
    }

    private static void layText(Laid l) {
        List<List<Integer>> lines = new ArrayList<>();
        for (int word : l.thing.words) {
            boolean fits = false;
            if (!lines.isEmpty()) {
                List<Integer> line = lines.get(lines.size() - 1);
                long sum = word;
                for (int before : line) {
                    sum += before;
                }
                fits = sum + 4L * line.size() <= l.width;
            }
            if (!fits) {
                lines.add(new ArrayList<>());
            }
            lines.get(lines.size() - 1).add(word);
        }
        l.lines = lines.size();
        l.height = 10L * lines.size();
    }

    private void layColumn(Laid l, long inner) {
        long y = l.thing.v[PAD];
        long heights = 0;
        for (Thing t : childrenOf(l.thing)) {
            Laid child = lay(t, t.v[ALIGN] == 0 ? clamp(t, inner) : hypo(t));
            long free = inner - child.width;
            child.left = l.thing.v[PAD] + (t.v[ALIGN] == 2 ? Math.floorDiv(free, 2L) : t.v[ALIGN] == 3 ? free : 0);
            child.top = y;
            y += child.height + l.thing.v[GAP];
            heights += child.height;
            l.children.add(child);
        }
        l.height = heights + (long) l.thing.v[GAP] * Math.max(0, l.children.size() - 1) + 2 * l.thing.v[PAD];
    }

    private void layGrid(Laid l, long inner) {
        Thing g = l.thing;
        List<Integer> numbers = trackNumbers(g);
        List<Boolean> shares = trackShares(g);
        int t = numbers.size();
        long left = inner - (long) g.v[GAP] * (t - 1);
        long s = 0;
        for (int i = 0; i < t; i++) {
            left -= shares.get(i) ? 0 : numbers.get(i);
            s += shares.get(i) ? numbers.get(i) : 0;
        }
        left = Math.max(0, left);
        long[] widths = new long[t];
        long dealt = 0;
        for (int i = 0; i < t; i++) {
            widths[i] = !shares.get(i) ? numbers.get(i) : s == 0 ? 0 : left * numbers.get(i) / s;
            dealt += shares.get(i) ? widths[i] : 0;
        }
        for (int i = 0; i < t && s != 0; i++) {
            if (dealt < left && shares.get(i) && numbers.get(i) != 0) {
                widths[i]++;
                dealt++;
            }
        }
        List<List<Laid>> lines = new ArrayList<>();
        List<Thing> children = childrenOf(g);
        for (int k = 0; k < children.size(); k++) {
            if (k % t == 0) {
                lines.add(new ArrayList<>());
            }
            Laid child = lay(children.get(k), clamp(children.get(k), widths[k % t]));
            child.left = g.v[PAD];
            for (int i = 0; i < k % t; i++) {
                child.left += widths[i] + g.v[GAP];
            }
            lines.get(k / t).add(child);
        }
        stackLines(l, lines);
    }

    private void layRow(Laid l, long inner) {
        Thing r = l.thing;
        List<List<Thing>> lines = new ArrayList<>();
        for (Thing child : childrenOf(r)) {
            boolean opens = lines.isEmpty();
            if (!opens && r.v[WRAP] == 1) {
                List<Thing> line = lines.get(lines.size() - 1);
                long sum = hypo(child) + (long) r.v[GAP] * line.size();
                for (Thing before : line) {
                    sum += hypo(before);
                }
                opens = sum > inner;
            }
            if (opens) {
                lines.add(new ArrayList<>());
            }
            lines.get(lines.size() - 1).add(child);
        }
        List<List<Laid>> laidLines = new ArrayList<>();
        for (List<Thing> line : lines) {
            laidLines.add(layRowLine(r, line, inner));
        }
        stackLines(l, laidLines);
    }

    private List<Laid> layRowLine(Thing r, List<Thing> line, long inner) {
        int n = line.size();
        long gaps = (long) r.v[GAP] * (n - 1);
        long[] widths = settle(line, inner, gaps);
        long free = inner - gaps;
        for (long width : widths) {
            free -= width;
        }
        free = Math.max(0, free);
        List<Laid> result = new ArrayList<>();
        long behind = r.v[PAD];
        for (int k = 0; k < n; k++) {
            Laid child = lay(line.get(k), widths[k]);
            long farther = 0;
            if (r.v[JUSTIFY] == 0) {
                farther = n == 1 ? 0 : free * k / (n - 1);
            } else if (r.v[JUSTIFY] == 2) {
                farther = free / 2;
            } else if (r.v[JUSTIFY] == 3) {
                farther = free;
            }
            child.left = behind + farther;
            behind += widths[k] + r.v[GAP];
            result.add(child);
        }
        return result;
    }

    private long[] settle(List<Thing> line, long inner, long gaps) {
        int n = line.size();
        long[] widths = new long[n];
        boolean[] settled = new boolean[n];
        long hypos = gaps;
        for (Thing t : line) {
            hypos += hypo(t);
        }
        boolean grows = hypos < inner;
        int open = 0;
        for (int k = 0; k < n; k++) {
            Thing t = line.get(k);
            widths[k] = hypo(t);
            boolean atOnce = grows ? t.v[GROW] == 0 || base(t) > hypo(t) : t.v[SHRINK] == 0 || base(t) < hypo(t);
            settled[k] = atOnce;
            open += atOnce ? 0 : 1;
        }
        while (open > 0) {
            long rest = inner - gaps;
            for (int k = 0; k < n; k++) {
                rest -= settled[k] ? widths[k] : base(line.get(k));
            }
            long[] wanted = grows ? growth(line, settled, rest) : shrinkage(line, settled, rest);
            long sum = 0;
            for (int k = 0; k < n; k++) {
                if (!settled[k]) {
                    widths[k] = clamp(line.get(k), wanted[k]);
                    sum += widths[k] - wanted[k];
                }
            }
            for (int k = 0; k < n; k++) {
                long added = widths[k] - wanted[k];
                if (!settled[k] && (sum == 0 || sum > 0 && added > 0 || sum < 0 && added < 0)) {
                    settled[k] = true;
                    open--;
                }
            }
        }
        return widths;
    }

    private long[] growth(List<Thing> line, boolean[] settled, long rest) {
        long[] wanted = new long[line.size()];
        long s = 0;
        for (int k = 0; k < wanted.length; k++) {
            s += settled[k] ? 0 : line.get(k).v[GROW];
        }
        long dealt = 0;
        for (int k = 0; k < wanted.length; k++) {
            if (!settled[k]) {
                long more = rest < 0 ? 0 : rest * line.get(k).v[GROW] / s;
                wanted[k] = base(line.get(k)) + more;
                dealt += more;
            }
        }
        for (int k = 0; k < wanted.length; k++) {
            if (!settled[k] && dealt < rest) {
                wanted[k]++;
                dealt++;
            }
        }
        return wanted;
    }

    private long[] shrinkage(List<Thing> line, boolean[] settled, long rest) {
        long[] wanted = new long[line.size()];
        long[] p = new long[line.size()];
        long s = 0;
        for (int k = 0; k < wanted.length; k++) {
            p[k] = settled[k] ? 0 : line.get(k).v[SHRINK] * base(line.get(k));
            s += p[k];
        }
        long lack = Math.max(0, -rest);
        long dealt = 0;
        for (int k = 0; k < wanted.length; k++) {
            if (!settled[k]) {
                long less = s == 0 ? 0 : lack * p[k] / s;
                wanted[k] = base(line.get(k)) - less;
                dealt += less;
            }
        }
        for (int k = 0; k < wanted.length; k++) {
            if (!settled[k] && p[k] != 0 && dealt < lack) {
                wanted[k]--;
                dealt++;
            }
        }
        return wanted;
    }

    private static void stackLines(Laid l, List<List<Laid>> lines) {
        long heights = 0;
        long y = l.thing.v[PAD];
        for (List<Laid> line : lines) {
            long high = 0;
            for (Laid child : line) {
                high = Math.max(high, child.height);
            }
            for (Laid child : line) {
                int how = child.thing.v[ALIGN];
                long difference = high - child.height;
                child.top = y + (how == 2 ? difference / 2 : how == 3 ? difference : 0);
                child.height = how == 0 ? high : child.height;
                l.children.add(child);
            }
            heights += high;
            y += high + l.thing.v[GAP];
        }
        l.lines = lines.size();
        l.height = heights + (long) l.thing.v[GAP] * Math.max(0, lines.size() - 1) + 2 * l.thing.v[PAD];
    }
}
