import java.lang.management.ManagementFactory;

/** All limits of the document at once, and how little room the calls then take. */
public final class RoomTests {
    private static final Check CHECK = new Check();
    private static final com.sun.management.ThreadMXBean THREADS =
            (com.sun.management.ThreadMXBean) ManagementFactory.getThreadMXBean();

    public static void main(String[] args) {
        PolicyTree warm = full();
        askAll(warm);
        CHECK.part("room");
        long before = allocated();
        PolicyTree x = full();
        long built = allocated() - before;
        CHECK.due("a full object takes " + built + " bytes", built < 400_000, true);
        askAll(x);
        before = allocated();
        for (int i = 0; i < 3; i++) {
            askAll(x);
        }
        long asked = allocated() - before;
        CHECK.due("asking takes " + asked + " bytes", asked < 4_000, true);
        answers(x);
        CHECK.finish();
    }

    private static long allocated() {
        return THREADS.getThreadAllocatedBytes(Thread.currentThread().getId());
    }

    /** A filter with as much waiting at one time as can be: ten brackets, two parts ahead of each. */
    private static String deepest() {
        return "node0or node0and(".repeat(10) + "node0or node0" + ")".repeat(10);
    }

    /** One way of 60 nodes, a machine at each, 100 links on it, 40 sets that tell all settings; each law is there. */
    private static PolicyTree full() {
        PolicyTree x = new PolicyTree();
        for (int i = 0; i < 59; i++) {
            x.node(i);
        }
        for (int i = 0; i < 60; i++) {
            x.machine(i);
        }
        for (int i = 0; i < 20; i++) {
            x.group();
        }
        for (int i = 0; i < 20; i++) {
            x.within(i, (i + 1) % 20, true);
        }
        for (int i = 0; i < 40; i++) {
            x.set();
            for (int s = 0; s < 12; s++) {
                x.tell(i, s, i);
            }
        }
        for (int s = 0; s < 12; s++) {
            x.law(s, s % 3);
        }
        for (int i = 0; i < 100; i++) {
            String text = i % 10 == 0 ? deepest() : i % 10 == 1 ? "fact " + i % 8 : "";
            CHECK.due("link", Check.link(x, i % 60, i % 40, i % 100, i % 7 == 0, text), i);
        }
        return x;
    }

    private static void askAll(PolicyTree x) {
        for (int m = 0; m < 60; m += 7) {
            for (int s = 0; s < 12; s++) {
                x.outcome(m, s);
                x.value(m, s, 3);
                x.reason(m, s);
                x.beaten(m, s, 50);
                x.sure(m, s);
            }
        }
        x.quarrels();
        x.quarrel(4950, 1);
        x.reach(0);
        x.reached(99, 700, 1);
        x.move(30, 20);
        x.move(30, 29);
        x.count(5);
        x.member(0, 59);
    }

    private static void answers(PolicyTree x) {
        CHECK.part("all limits");
        CHECK.due("a list without those of unknown facts", x.outcome(59, 2), 36);
        CHECK.due("so it is not sure", x.sure(59, 2), false);
        for (int f = 0; f < 8; f++) {
            x.fact(59, f, 1);
        }
        CHECK.due("the longest list", x.outcome(59, 2), 40);
        CHECK.due("it is sure", x.sure(59, 2), true);
        CHECK.due("the last of it is forced at the root", x.reason(59, 2), 0);
        CHECK.due("most beaten", x.beaten(59, 0, 80) != PolicyTree.NONE, true);
        for (int i = 0; i < 100; i++) {
            x.end(i);
        }
        CHECK.due("all ended", x.outcome(59, 2), 0);
        CHECK.due("none lasts", x.count(5), 0);
        CHECK.due("moved for nothing", x.move(59, 0), 0);
    }
}
