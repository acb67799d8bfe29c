/** Counts answers that are not as due, and tells them. */
final class Check {
    private int wrong;
    private int asked;
    private String part = "";

    void part(String name) {
        part = name;
    }

    void due(String call, long got, long want) {
        asked++;
        if (got != want) {
            wrong++;
            System.out.println(part + ": " + call + " answered " + got + ", due is " + want);
        }
    }

    void due(String call, boolean got, boolean want) {
        due(call, got ? 1 : 0, want ? 1 : 0);
    }

    /** The exception's name; the class must throw it by itself, not leave it to the machine or the library. */
    static String name(RuntimeException e) {
        StackTraceElement[] trace = e.getStackTrace();
        boolean own = trace.length > 0 && trace[0].getClassName().startsWith("PolicyTree");
        return own ? e.getClass().getSimpleName() : "from outside: " + e;
    }

    void dueThrow(String call, Class<? extends RuntimeException> due, Runnable run) {
        asked++;
        String want = due.getSimpleName();
        String got = "nothing";
        try {
            run.run();
        } catch (RuntimeException e) {
            got = name(e);
        }
        if (!got.equals(want)) {
            wrong++;
            System.out.println(part + ": " + call + " threw " + got + ", due is " + want);
        }
    }

    void outOfBounds(String call, Runnable run) {
        dueThrow(call, IndexOutOfBoundsException.class, run);
    }

    void badArgument(String call, Runnable run) {
        dueThrow(call, IllegalArgumentException.class, run);
    }

    void badState(String call, Runnable run) {
        dueThrow(call, IllegalStateException.class, run);
    }

    /** These are the values of an outcome, in their order, and no more. */
    void dueValues(String what, PolicyTree x, int machine, int setting, int... values) {
        due(what + ": outcome", x.outcome(machine, setting), values.length);
        for (int i = 0; i < values.length; i++) {
            due(what + ": value " + i, x.value(machine, setting, i), values[i]);
        }
        due(what + ": value behind", x.value(machine, setting, values.length), 0);
    }

    void finish() {
        System.out.println(wrong == 0 ? "all " + asked + " answers are as due" : wrong + " of " + asked + " are not as due");
        if (wrong != 0) {
            System.exit(1);
        }
    }

    /** Brings a text on the tape, padded to whole feeds with zero bytes; false if it found no room. */
    static boolean feed(PolicyTree x, String text) {
        for (int at = 0; at < text.length(); at += 20) {
            int[] numbers = new int[5];
            for (int i = 0; i < 20; i++) {
                int sign = at + i < text.length() ? text.charAt(at + i) & 255 : 0;
                numbers[i / 4] |= sign << 24 - i % 4 * 8;
            }
            if (x.feed(numbers[0], numbers[1], numbers[2], numbers[3], numbers[4]) == PolicyTree.NONE) {
                return false;
            }
        }
        return true;
    }

    static int link(PolicyTree x, int node, int set, int order, boolean forced, String text) {
        feed(x, text);
        return x.link(node, set, order, forced, text.length());
    }

    /** A machine at the root, and sets that tell these values of setting 0. */
    static PolicyTree telling(int... values) {
        PolicyTree x = new PolicyTree();
        x.machine(0);
        for (int i = 0; i < values.length; i++) {
            x.set();
            x.tell(i, 0, values[i]);
        }
        return x;
    }
}
