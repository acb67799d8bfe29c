import java.util.function.Consumer;
import java.util.function.IntSupplier;

/**
 * A small tree with a bit of everything, and all that can be seen of it as one text; so that a call that is refused
 * can be held to changing nothing. Making and seeing together stay below the 512 calls of an object.
 */
final class Scene {
    static final int NODES = 5;
    static final int MACHINES = 3;
    static final int GROUPS = 3;
    static final int SETS = 6;
    static final int LINKS = 8;
    static final int TAPE = 20;
    static final int FAULT = 4;
    private static final int SETTINGS = 3;

    private final PolicyTree x;
    private final StringBuilder seen = new StringBuilder();

    private Scene(PolicyTree x) {
        this.x = x;
    }

    /** Setting 0 is a list of the nodes on the way of each machine, so that it shows where they are. */
    static PolicyTree make() {
        PolicyTree x = new PolicyTree();
        x.node(0);
        x.node(1);
        x.node(2);
        x.node(0);
        x.block(4, true);
        x.machine(3);
        x.machine(4);
        x.machine(0);
        x.fact(0, 0, 1);
        x.fact(0, 7, 0);
        x.fact(2, 1, 1);
        x.group();
        x.group();
        x.group();
        x.joins(0, 0, true);
        x.joins(2, 2, true);
        x.within(1, 0, true);
        x.within(0, 1, true);
        x.law(0, 2);
        x.law(1, 1);
        for (int i = 0; i < SETS; i++) {
            x.set();
            x.tell(i, 0, i);
        }
        for (int i = 0; i < NODES; i++) {
            x.link(i, i, 1, i % 2 == 0, 0);
        }
        x.tell(0, 1, 7);
        x.tell(2, 1, 6);
        x.tell(3, 2, 5);
        x.tell(4, 2, 4);
        x.tell(5, 2, 3);
        Check.link(x, 0, 5, 9, false, "group 1 and not fact 2");
        x.link(0, 3, 9, false, 0);
        x.link(0, 4, 9, false, 0);
        x.end(7);
        Check.link(x, 0, 0, 0, false, "not or");
        Check.feed(x, "fact 1");
        return x;
    }

    static String see(PolicyTree x) {
        Scene scene = new Scene(x);
        scene.counts();
        scene.outcomes();
        scene.links();
        scene.told();
        return scene.seen.toString();
    }

    private void add(String what, long answer) {
        seen.append(what).append(' ').append(answer).append('\n');
    }

    private void add(String what, boolean answer) {
        add(what, answer ? 1 : 0);
    }

    private void counts() {
        for (int what = 0; what < 7; what++) {
            add("count " + what, x.count(what));
        }
        add("fault", x.fault());
    }

    private void outcomes() {
        for (int m = 0; m < MACHINES; m++) {
            for (int s = 0; s < SETTINGS; s++) {
                String of = " of " + m + " " + s;
                add("outcome" + of, x.outcome(m, s));
                for (int k = 0; k < 7; k++) {
                    add("value " + k + of, x.value(m, s, k));
                }
                add("reason" + of, x.reason(m, s));
                add("beaten" + of, x.beaten(m, s, 0));
                add("sure" + of, x.sure(m, s));
            }
            add("setting 11 of " + m, x.outcome(m, 11));
        }
    }

    private void links() {
        for (int i = 0; i < LINKS; i++) {
            add("reach of " + i, x.reach(i));
            add("reached of " + i, x.reached(i, 0, 0));
        }
        add("quarrels", x.quarrels());
        add("lower", x.quarrel(0, 0));
        add("other", x.quarrel(0, 1));
    }

    /** What was told, by telling it anew; the tape's bytes by a link, the last call. */
    private void told() {
        for (int n = 0; n < NODES; n++) {
            add("block " + n, x.block(n, false));
        }
        for (int m = 0; m < MACHINES; m++) {
            for (int f = 0; f < 8; f++) {
                add("fact " + f + " of " + m, x.fact(m, f, -1));
            }
            for (int g = 0; g < GROUPS; g++) {
                add("member " + m + " of " + g, x.member(g, m));
                add("joins " + m + " " + g, x.joins(g, m, false));
            }
        }
        for (int g = 0; g < GROUPS; g++) {
            for (int h = 0; h < GROUPS; h++) {
                add("within " + g + " " + h, x.within(g, h, false));
            }
        }
        for (int s = 0; s < 12; s++) {
            add("law " + s, x.law(s, 0));
        }
        for (int t = 0; t < SETS; t++) {
            for (int s = 0; s < SETTINGS; s++) {
                add("untell " + t + " " + s, x.untell(t, s));
            }
            add("untell " + t + " 11", x.untell(t, 11));
        }
        addNew("link", () -> x.link(0, 0, 0, false, Math.min(6, x.count(6))));
        addNew("node", () -> x.node(0));
        addNew("machine", () -> x.machine(0));
        addNew("group", () -> x.group());
        addNew("set", () -> x.set());
    }

    /** A number, or that there are as many as may be. */
    private void addNew(String what, IntSupplier call) {
        try {
            add(what, call.getAsInt());
        } catch (IllegalStateException e) {
            seen.append(what).append(" no more\n");
        }
    }

    /** The call throws this by its own throw, and nothing that can be seen is another one behind it. */
    static void refused(Check check, String call, Class<? extends RuntimeException> due, Consumer<PolicyTree> run) {
        PolicyTree called = make();
        check.dueThrow(call, due, () -> run.accept(called));
        unchanged(check, call, called);
    }

    static void unchanged(Check check, String call, PolicyTree called) {
        same(check, call, make(), called);
    }

    /** Likewise in a scene where the call was made before, till there are so many. */
    static void refusedWhenFull(Check check, String call, int left, Consumer<PolicyTree> run) {
        PolicyTree[] twins = {make(), make()};
        for (PolicyTree x : twins) {
            for (int i = 0; i < left; i++) {
                run.accept(x);
            }
        }
        check.badState(call + ", one more", () -> run.accept(twins[1]));
        check.badState(call + ", and again", () -> run.accept(twins[1]));
        same(check, call + ", one more,", twins[0], twins[1]);
    }

    private static void same(Check check, String call, PolicyTree due, PolicyTree called) {
        String[] before = see(due).split("\n");
        String[] after = see(called).split("\n");
        for (int i = 0; i < before.length; i++) {
            check.due(call + " changes nothing: " + before[i] + " is now " + after[i], before[i].equals(after[i]), true);
        }
    }
}
