/** Counts what is as due and prints what is not; every test program ends with {@link #end}. */
final class Check {
    private static int passed = 0;
    private static int failed = 0;

    private Check() {
    }

    static void same(String what, long got, long due) {
        isTrue(what + " answered " + got + ", due is " + due, got == due);
    }

    static void same(String what, String got, String due) {
        isTrue(what + " answered\n" + got + "\ndue is\n" + due, got.equals(due));
    }

    static void isTrue(String what, boolean holds) {
        if (holds) {
            passed++;
        } else {
            failed++;
            System.out.println("not as due: " + what);
        }
    }

    static void badArgument(String what, Runnable call) {
        refused(what, IllegalArgumentException.class, call);
    }

    static void badState(String what, Runnable call) {
        refused(what, IllegalStateException.class, call);
    }

    private static void refused(String what, Class<? extends RuntimeException> due, Runnable call) {
        String got = "nothing";
        try {
            call.run();
        } catch (RuntimeException e) {
            got = e.getClass().getName();
        }
        isTrue(what + " throws " + got + ", due is " + due.getName(), got.equals(due.getName()));
    }

    /** Where a node lies and how large it is, in one row. */
    static void box(StretchedRows x, int node, int left, int top, int width, int height) {
        String got;
        try {
            got = x.where(node, 0) + " " + x.where(node, 1) + " " + x.where(node, 2) + " " + x.where(node, 3);
        } catch (IllegalArgumentException e) {
            got = "not laid out";
        }
        String due = left + " " + top + " " + width + " " + height;
        isTrue("node " + node + " lies at " + got + ", due is " + due, got.equals(due));
    }

    static void notLaidOut(StretchedRows x, int node) {
        badArgument("where of node " + node, () -> x.where(node, 0));
        badArgument("lines of node " + node, () -> x.lines(node));
    }

    static void end(String name) {
        System.out.println(name + ": " + passed + " passed, " + failed + " failed");
        if (failed != 0 || passed == 0) {
            System.exit(1);
        }
    }
}
