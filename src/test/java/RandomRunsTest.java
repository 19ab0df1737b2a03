import java.util.Random;
import java.util.function.IntSupplier;

/**
 * Runs of 512 calls, right and wrong ones, every answer held against PlainRows. The seeds are fixed,
 * so that a run that fails fails again.
 */
public final class RandomRunsTest {
    private static final int RUNS = 1500;
    private static final int CALLS = 512;
    private static final int[] LOWEST = {0, 0, -1, 0, 0, 0, -9, 0, 0, 0, 0, 0, 0, 0};
    private static final int[] HIGHEST = {9, 9, 500, 500, 1000, 3, 9, 1, 500, 500, 50, 50, 3, 1};

    private final Random random;
    private final String name;
    private final StretchedRows one = new StretchedRows();
    private final PlainRows plain = new PlainRows();
    private final StringBuilder story = new StringBuilder();
    private final int style;
    private int made = 0;
    private int callsLeft = CALLS;
    private boolean wrong = false;

    private RandomRunsTest(int seed) {
        random = new Random(seed);
        name = "run " + seed;
        style = seed % 4;
    }

    public static void main(String[] args) {
        for (int seed = 0; seed < RUNS; seed++) {
            RandomRunsTest run = new RandomRunsTest(seed);
            run.play();
            Check.isTrue(run.name + "\n" + run.story, !run.wrong);
            if (run.wrong) {
                break;
            }
        }
        Check.end("RandomRunsTest");
    }

    private void play() {
        while (callsLeft > 0 && !wrong) {
            step();
        }
    }

    private void compare(String call, IntSupplier mine, IntSupplier due) {
        if (callsLeft == 0 || wrong) {
            return;
        }
        callsLeft--;
        String got = answer(mine);
        String want = answer(due);
        story.append(call).append(" = ").append(got).append('\n');
        if (!got.equals(want)) {
            wrong = true;
            story.append("due is ").append(want).append('\n');
        }
    }

    private static String answer(IntSupplier call) {
        try {
            return Integer.toString(call.getAsInt());
        } catch (RuntimeException e) {
            return e.getClass().getName();
        }
    }

    private void step() {
        int dice = random.nextInt(100);
        if (made == 0 || dice < 22) {
            makeNode();
        } else if (dice < 24) {
            removeNode();
        } else if (dice < 58) {
            setNumber();
        } else if (dice < 74) {
            addWordOrTrack();
        } else if (dice < 78) {
            int n = someNode();
            compare("natural(" + n + ")", () -> one.natural(n), () -> plain.natural(n));
        } else if (dice < 82) {
            lookAround(4);
        } else {
            layOut();
        }
    }

    private int someNode() {
        return random.nextInt(25) == 0 ? random.nextInt(made + 4) - 2 : random.nextInt(made + 1);
    }

    private void makeNode() {
        int parent = one.nodes() == 0 && random.nextInt(4) > 0 ? -1 : someNode();
        int[] kinds = style == 0 ? new int[] {0, 1, 3} : style == 1 ? new int[] {0, 1, 4, 3} : new int[] {0, 1, 2, 3, 4};
        int kind = random.nextInt(30) == 0 ? random.nextInt(8) - 2 : kinds[random.nextInt(kinds.length)];
        int before = one.nodes();
        compare("node(" + parent + ", " + kind + ")", () -> one.node(parent, kind), () -> plain.node(parent, kind));
        made += one.nodes() > before ? 1 : 0;
    }

    private void removeNode() {
        int n = someNode();
        compare("remove(" + n + ")", () -> one.remove(n), () -> plain.remove(n));
        compare("nodes()", () -> one.nodes(), () -> plain.nodes());
        lookAround(3);
    }

    private void setNumber() {
        int n = someNode();
        int what = random.nextInt(40) == 0 ? random.nextInt(18) - 2 : random.nextInt(14);
        if (what == StretchedRows.HIDDEN && random.nextInt(3) > 0) {
            what = StretchedRows.GROW;
        }
        int number = what;
        int v = valueFor(what);
        compare("set(" + n + ", " + number + ", " + v + ")", () -> {
            one.set(n, number, v);
            return 0;
        }, () -> {
            plain.set(n, number, v);
            return 0;
        });
    }

    private int valueFor(int what) {
        if (what < 0 || what > 13) {
            return 0;
        }
        int low = LOWEST[what];
        int high = HIGHEST[what];
        switch (random.nextInt(12)) {
            case 0:
                return low;
            case 1:
                return high;
            case 2:
                return random.nextInt(6) == 0 ? (random.nextBoolean() ? low - 1 : high + 1) : low;
            default:
                // Small measures meet each other's bounds more often than large ones do.
                return style < 3 && high >= 50 ? random.nextInt(Math.min(high, 120)) : low + random.nextInt(high - low + 1);
        }
    }

    private void addWordOrTrack() {
        int n = someNode();
        if (random.nextInt(3) > 0) {
            int width = random.nextInt(20) == 0 ? random.nextInt(3) * 100 + random.nextInt(3) - 1 : 1 + random.nextInt(60);
            compare("word(" + n + ", " + width + ")", () -> one.word(n, width), () -> plain.word(n, width));
        } else {
            boolean share = random.nextBoolean();
            int number = random.nextInt(20) == 0 ? random.nextInt(2) * 201 - random.nextInt(2) : random.nextInt(share ? 5 : 60);
            compare("track(" + n + ", " + share + ", " + number + ")",
                () -> one.track(n, share, number), () -> plain.track(n, share, number));
        }
    }

    private void layOut() {
        int width = random.nextInt(30) == 0 ? random.nextInt(2) * 1002 - 1 : random.nextInt(style == 3 ? 1001 : 300);
        compare("layout(" + width + ")", () -> one.layout(width), () -> plain.layout(width));
        lookAround(6);
        if (random.nextInt(6) == 0) {
            lookAtAll();
        }
    }

    private void lookAround(int times) {
        for (int i = 0; i < times; i++) {
            int n = someNode();
            int what = random.nextInt(20) == 0 ? random.nextInt(8) - 2 : random.nextInt(4);
            int x = random.nextInt(320) - 5;
            int y = random.nextInt(random.nextBoolean() ? 30 : 200) - 2;
            switch (random.nextInt(4)) {
                case 0:
                    compare("at(" + x + ", " + y + ")", () -> one.at(x, y), () -> plain.at(x, y));
                    break;
                case 1:
                    compare("lines(" + n + ")", () -> one.lines(n), () -> plain.lines(n));
                    break;
                default:
                    compare("where(" + n + ", " + what + ")", () -> one.where(n, what), () -> plain.where(n, what));
                    break;
            }
        }
    }

    private void lookAtAll() {
        for (int n = Math.max(0, made - 26); n < made; n++) {
            int number = n;
            for (int what = 0; what < 4; what++) {
                int w = what;
                compare("where(" + n + ", " + what + ")", () -> one.where(number, w), () -> plain.where(number, w));
            }
        }
    }
}
