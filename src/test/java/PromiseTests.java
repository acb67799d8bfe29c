/** Each promise of the document in its order: ordinary inputs, the edges that it names, wrong inputs. */
public final class PromiseTests {
    private static final Check CHECK = new Check();
    private static final int LOW = Integer.MIN_VALUE;
    private static final int HIGH = Integer.MAX_VALUE;

    public static void main(String[] args) {
        newObject();
        node();
        block();
        move();
        moveCounts();
        machine();
        fact();
        group();
        joins();
        within();
        member();
        set();
        tell();
        untell();
        law();
        feed();
        link();
        linkThrows();
        fault();
        end();
        outcome();
        value();
        reason();
        beaten();
        sure();
        sureOfLists();
        reach();
        reached();
        quarrels();
        quarrel();
        count();
        CHECK.finish();
    }

    private static PolicyTree sets(int n) {
        PolicyTree x = new PolicyTree();
        for (int i = 0; i < n; i++) {
            x.set();
        }
        return x;
    }

    private static void newObject() {
        CHECK.part("1 new object");
        PolicyTree x = new PolicyTree();
        CHECK.due("NONE", PolicyTree.NONE, -1);
        CHECK.due("nodes", x.count(0), 1);
        for (int what = 1; what <= 6; what++) {
            CHECK.due("count " + what, x.count(what), 0);
        }
        CHECK.due("fault", x.fault(), -1);
        CHECK.due("quarrels", x.quarrels(), 0);
        CHECK.due("the root is not blocked", x.block(0, false), false);
        CHECK.due("law", x.law(0, 0), 0);
    }

    private static void node() {
        CHECK.part("2 node");
        PolicyTree x = new PolicyTree();
        CHECK.outOfBounds("node(-1)", () -> x.node(-1));
        CHECK.outOfBounds("node(1)", () -> x.node(1));
        CHECK.outOfBounds("node(LOW)", () -> x.node(LOW));
        CHECK.outOfBounds("node(HIGH)", () -> x.node(HIGH));
        for (int i = 1; i < 60; i++) {
            CHECK.due("node", x.node(i - 1), i);
        }
        CHECK.badState("61st", () -> x.node(0));
        CHECK.outOfBounds("61st below none", () -> x.node(60));
        CHECK.due("count", x.count(0), 60);
    }

    private static void block() {
        CHECK.part("3 block");
        PolicyTree x = Check.telling(1, 2, 3, 4);
        x.node(0);
        x.node(1);
        x.machine(2);
        x.link(0, 0, 0, false, 0);
        x.link(1, 1, 0, false, 0);
        x.link(2, 2, 0, false, 0);
        x.link(0, 3, 0, true, 0);
        x.law(0, 2);
        CHECK.dueValues("open", x, 1, 0, 1, 2, 3, 4);
        CHECK.due("block 1", x.block(1, true), false);
        CHECK.dueValues("the links of a blocked node itself stay", x, 1, 0, 2, 3, 4);
        CHECK.due("again", x.block(1, true), true);
        CHECK.due("block 2", x.block(2, true), false);
        CHECK.dueValues("the lowest blocked node counts", x, 1, 0, 3, 4);
        CHECK.dueValues("no machine outside", x, 0, 0, 1, 4);
        CHECK.due("open 2", x.block(2, false), true);
        CHECK.dueValues("open again", x, 1, 0, 2, 3, 4);
        CHECK.due("root", x.block(0, true), false);
        CHECK.dueValues("a blocked root blocks nothing", x, 0, 0, 1, 4);
        CHECK.outOfBounds("block(3)", () -> x.block(3, true));
        CHECK.outOfBounds("block(-1)", () -> x.block(-1, true));
    }

    private static void move() {
        CHECK.part("4 move");
        PolicyTree x = new PolicyTree();
        x.node(0);
        x.node(1);
        x.node(2);
        x.node(0);
        CHECK.due("the root", x.move(0, 4), -1);
        CHECK.due("the root to itself", x.move(0, 0), -1);
        CHECK.due("itself", x.move(1, 1), -1);
        CHECK.due("far below itself", x.move(1, 3), -1);
        CHECK.due("where it is", x.move(1, 0), 0);
        CHECK.due("aside", x.move(2, 4), 0);
        CHECK.due("now free", x.move(1, 3), 0);
        CHECK.due("now a ring", x.move(4, 1), -1);
        CHECK.outOfBounds("move(5, 0)", () -> x.move(5, 0));
        CHECK.outOfBounds("move(1, 5)", () -> x.move(1, 5));
        CHECK.outOfBounds("move(-1, 0)", () -> x.move(-1, 0));
        CHECK.outOfBounds("move(0, -1)", () -> x.move(0, -1));
    }

    private static void moveCounts() {
        CHECK.part("4 move counts");
        PolicyTree x = Check.telling(1, 2, 1);
        x.node(0);
        x.node(0);
        x.node(1);
        x.machine(3);
        x.machine(3);
        x.machine(1);
        x.tell(0, 5, 9);
        x.link(1, 0, 0, false, 0);
        x.link(2, 1, 0, false, 0);
        CHECK.due("two machines, two settings", x.move(3, 2), 4);
        CHECK.dueValues("moved", x, 1, 0, 2);
        CHECK.dueValues("told no more", x, 1, 5);
        x.link(0, 2, 0, true, 0);
        CHECK.due("a like value by another link is no change", x.move(3, 1), 2);
        x.law(0, 2);
        Check.link(x, 0, 1, 7, false, "node 2");
        CHECK.due("filters see the moved node", x.move(1, 2), 3);
        CHECK.dueValues("below 2 now", x, 3, 0, 2, 1);
        CHECK.due("back", x.move(1, 0), 3);
        x.block(1, true);
        CHECK.due("nothing changes", x.move(1, 2), 0);
        PolicyTree y = new PolicyTree();
        y.node(0);
        y.node(0);
        y.machine(1);
        y.set();
        y.tell(0, 0, 1);
        y.link(2, 0, 0, false, 0);
        CHECK.due("machine 0 counts", y.move(1, 2), 1);
    }

    private static void machine() {
        CHECK.part("5 machine");
        PolicyTree x = new PolicyTree();
        CHECK.outOfBounds("machine(1)", () -> x.machine(1));
        CHECK.outOfBounds("machine(-1)", () -> x.machine(-1));
        for (int i = 0; i < 60; i++) {
            CHECK.due("machine", x.machine(0), i);
        }
        CHECK.badState("61st", () -> x.machine(0));
        CHECK.outOfBounds("61st at none", () -> x.machine(1));
    }

    private static void fact() {
        CHECK.part("6 fact");
        PolicyTree x = new PolicyTree();
        CHECK.outOfBounds("no machine", () -> x.fact(0, 0, 1));
        CHECK.outOfBounds("no machine, bad fact", () -> x.fact(0, 9, 5));
        x.machine(0);
        x.machine(0);
        for (int f = 0; f < 8; f++) {
            CHECK.due("first", x.fact(0, f, 1), -1);
            CHECK.due("yes", x.fact(0, f, 0), 1);
            CHECK.due("no", x.fact(0, f, -1), 0);
            CHECK.due("not known", x.fact(0, f, 1), -1);
            CHECK.due("the other machine", x.fact(1, f, -1), -1);
        }
        CHECK.due("kept", x.fact(0, 3, -1), 1);
        CHECK.due("kept too", x.fact(0, 4, 1), 1);
        CHECK.badArgument("fact 8", () -> x.fact(0, 8, 1));
        CHECK.badArgument("fact -1", () -> x.fact(0, -1, 1));
        CHECK.badArgument("v 2", () -> x.fact(0, 0, 2));
        CHECK.badArgument("v -2", () -> x.fact(0, 0, -2));
        CHECK.badArgument("v LOW", () -> x.fact(0, 0, LOW));
        CHECK.outOfBounds("machine -1", () -> x.fact(-1, 0, 1));
        CHECK.due("a throw changes nothing", x.fact(0, 0, 1), 1);
    }

    private static void group() {
        CHECK.part("7 group");
        PolicyTree x = new PolicyTree();
        for (int i = 0; i < 20; i++) {
            CHECK.due("group", x.group(), i);
        }
        CHECK.badState("21st", () -> x.group());
        CHECK.due("count", x.count(2), 20);
    }

    private static void joins() {
        CHECK.part("8 joins");
        PolicyTree x = new PolicyTree();
        x.group();
        x.machine(0);
        CHECK.due("joins", x.joins(0, 0, true), false);
        CHECK.due("again", x.joins(0, 0, true), true);
        CHECK.due("member", x.member(0, 0), true);
        CHECK.due("leaves", x.joins(0, 0, false), true);
        CHECK.due("left", x.joins(0, 0, false), false);
        CHECK.due("no member", x.member(0, 0), false);
        CHECK.outOfBounds("group 1", () -> x.joins(1, 0, true));
        CHECK.outOfBounds("group -1", () -> x.joins(-1, 0, true));
        CHECK.outOfBounds("machine 1", () -> x.joins(0, 1, true));
        CHECK.outOfBounds("machine -1", () -> x.joins(0, -1, true));
        x.group();
        x.within(1, 0, true);
        x.joins(0, 0, true);
        CHECK.due("a member by another group is not in it", x.joins(1, 0, false), false);
    }

    private static void within() {
        CHECK.part("9 within");
        PolicyTree x = new PolicyTree();
        x.group();
        x.group();
        x.machine(0);
        CHECK.due("itself", x.within(0, 0, true), false);
        CHECK.due("itself again", x.within(0, 0, true), true);
        CHECK.due("a ring of one brings nobody", x.member(0, 0), false);
        CHECK.due("1 in 0", x.within(0, 1, true), false);
        CHECK.due("0 is not in 1", x.within(1, 0, true), false);
        CHECK.due("a ring of two brings nobody", x.member(1, 0), false);
        x.joins(1, 0, true);
        CHECK.due("in 0 by 1", x.member(0, 0), true);
        CHECK.due("1 not in 0", x.within(0, 1, false), true);
        CHECK.due("no more in 0", x.member(0, 0), false);
        CHECK.outOfBounds("group 2", () -> x.within(2, 0, true));
        CHECK.outOfBounds("group -1", () -> x.within(-1, 0, true));
        CHECK.outOfBounds("other 2", () -> x.within(0, 2, true));
        CHECK.outOfBounds("other -1", () -> x.within(0, -1, true));
    }

    private static void member() {
        CHECK.part("10 member");
        PolicyTree x = new PolicyTree();
        for (int i = 0; i < 20; i++) {
            x.group();
        }
        for (int i = 0; i < 60; i++) {
            x.machine(0);
        }
        for (int i = 0; i < 19; i++) {
            x.within(i, i + 1, true);
        }
        x.joins(19, 59, true);
        x.joins(10, 3, true);
        for (int i = 0; i < 20; i++) {
            CHECK.due("by a long chain, " + i, x.member(i, 59), true);
            CHECK.due("from its middle, " + i, x.member(i, 3), i <= 10);
            CHECK.due("nowhere, " + i, x.member(i, 27), false);
        }
        x.within(19, 0, true);
        for (int i = 0; i < 20; i++) {
            CHECK.due("round the ring, " + i, x.member(i, 3), true);
        }
        CHECK.outOfBounds("group 20", () -> x.member(20, 0));
        CHECK.outOfBounds("group -1", () -> x.member(-1, 0));
        CHECK.outOfBounds("machine 60", () -> x.member(0, 60));
        CHECK.outOfBounds("machine -1", () -> x.member(0, -1));
    }

    private static void set() {
        CHECK.part("11 set");
        PolicyTree x = new PolicyTree();
        for (int i = 0; i < 40; i++) {
            CHECK.due("set", x.set(), i);
        }
        CHECK.badState("41st", () -> x.set());
        CHECK.due("count", x.count(3), 40);
    }

    private static void tell() {
        CHECK.part("12 tell");
        PolicyTree x = sets(1);
        CHECK.due("0 where none was", x.tell(0, 0, 0), true);
        CHECK.due("the same", x.tell(0, 0, 0), false);
        CHECK.due("another", x.tell(0, 0, LOW), true);
        CHECK.due("of 11", x.tell(0, 11, HIGH), true);
        x.machine(0);
        x.link(0, 0, 0, false, 0);
        CHECK.dueValues("told", x, 0, 0, LOW);
        CHECK.dueValues("told of 11", x, 0, 11, HIGH);
        x.tell(0, 0, 7);
        CHECK.dueValues("told behind the link", x, 0, 0, 7);
        CHECK.badArgument("setting 12", () -> x.tell(0, 12, 0));
        CHECK.badArgument("setting -1", () -> x.tell(0, -1, 0));
        CHECK.outOfBounds("set 1", () -> x.tell(1, 0, 0));
        CHECK.outOfBounds("set -1, setting -1", () -> x.tell(-1, -1, 0));
    }

    private static void untell() {
        CHECK.part("13 untell");
        PolicyTree x = Check.telling(5);
        x.link(0, 0, 0, false, 0);
        CHECK.due("untell", x.untell(0, 0), true);
        CHECK.due("outcome", x.outcome(0, 0), 0);
        CHECK.due("again", x.untell(0, 0), false);
        CHECK.due("never told", x.untell(0, 11), false);
        CHECK.due("told anew", x.tell(0, 0, 5), true);
        CHECK.badArgument("setting 12", () -> x.untell(0, 12));
        CHECK.badArgument("setting -1", () -> x.untell(0, -1));
        CHECK.outOfBounds("set 1", () -> x.untell(1, 12));
        CHECK.outOfBounds("set -1", () -> x.untell(-1, 0));
    }

    private static void law() {
        CHECK.part("14 law");
        PolicyTree x = new PolicyTree();
        for (int setting = 0; setting < 12; setting++) {
            int first = setting;
            CHECK.due("first", x.law(first, 2), 0);
            CHECK.due("LIST", x.law(first, 1), 2);
            CHECK.due("LEAST", x.law(first, 0), 1);
        }
        CHECK.badArgument("setting 12", () -> x.law(12, 0));
        CHECK.badArgument("setting -1", () -> x.law(-1, 0));
        CHECK.badArgument("law 3", () -> x.law(0, 3));
        CHECK.badArgument("law -1", () -> x.law(0, -1));
        CHECK.due("a throw changes nothing", x.law(0, 0), 0);
    }

    private static void feed() {
        CHECK.part("15 feed");
        PolicyTree x = sets(1);
        for (int i = 1; i <= 10; i++) {
            CHECK.due("feed", x.feed(0x20202020, 0x20202020, 0x20202020, 0x20202020, 0x20202020), 20 * i);
        }
        CHECK.due("more than 200", x.feed(1, 2, 3, 4, 5), -1);
        CHECK.due("did nothing", x.count(6), 200);
        CHECK.due("all blanks", x.link(0, 0, 0, false, 200), 0);
        CHECK.due("highest byte first", x.feed(0x66616374, 0x20303132, 0x80, 0, 0), 20);
        CHECK.due("fault 2", x.link(0, 0, 0, false, 8), -8);
        x.feed(0x66616374, 0x20202020, 0x20202020, 0x20202020, 0x20202037);
        CHECK.due("the last byte", x.link(0, 0, 0, false, 20), 1);
        x.feed(0xE6616374, 0x20310000, 0, 0, 0);
        CHECK.due("a byte over 127", x.link(0, 0, 0, false, 6), -9);
    }

    private static void link() {
        CHECK.part("16 link");
        PolicyTree x = Check.telling(1, 2, 3, 4, 5, 6);
        x.law(0, 2);
        CHECK.due("order 50", x.link(0, 0, 50, false, 0), 0);
        CHECK.due("order 99", x.link(0, 1, 99, false, 0), 1);
        CHECK.due("order 0", x.link(0, 2, 0, false, 0), 2);
        CHECK.due("order 50 later", x.link(0, 3, 50, false, 0), 3);
        CHECK.due("forced, order 7", x.link(0, 4, 7, true, 0), 4);
        CHECK.due("forced, order 3", x.link(0, 5, 3, true, 0), 5);
        CHECK.dueValues("by order, then number", x, 0, 0, 3, 1, 4, 2, 6, 5);
        x.feed(0x66616374, 0x20300000, 0, 0, 0);
        CHECK.due("the first bytes alone", x.link(0, 0, 0, false, 6), 6);
        CHECK.due("the tape is empty", x.count(6), 0);
        CHECK.due("a fault", Check.link(x, 0, 0, 0, false, "fact"), -9);
        CHECK.due("empty behind a fault, too", x.count(6), 0);
        CHECK.due("a fault tells no link", x.count(4), 7);
        PolicyTree y = Check.telling(1, 2, 3, 4);
        y.node(0);
        y.node(1);
        y.machine(2);
        y.law(0, 2);
        y.link(2, 0, 0, false, 0);
        y.link(1, 1, 0, false, 0);
        y.link(0, 2, 9, true, 0);
        y.link(2, 3, 9, true, 0);
        CHECK.dueValues("down the way, then up for forced ones", y, 1, 0, 2, 1, 4, 3);
    }

    private static void linkThrows() {
        CHECK.part("16 link throws");
        PolicyTree x = sets(1);
        CHECK.outOfBounds("node 1", () -> x.link(1, 0, 0, false, 0));
        CHECK.outOfBounds("node -1", () -> x.link(-1, 0, 0, false, 0));
        CHECK.outOfBounds("set 1", () -> x.link(0, 1, 0, false, 0));
        CHECK.outOfBounds("set -1", () -> x.link(0, -1, 100, false, 0));
        CHECK.badArgument("order -1", () -> x.link(0, 0, -1, false, 0));
        CHECK.badArgument("order 100", () -> x.link(0, 0, 100, false, 0));
        CHECK.badArgument("n -1", () -> x.link(0, 0, 0, false, -1));
        CHECK.badArgument("n 1", () -> x.link(0, 0, 0, false, 1));
        Check.feed(x, "fact 1");
        CHECK.badArgument("n 21", () -> x.link(0, 0, 0, false, 21));
        CHECK.badArgument("n HIGH", () -> x.link(0, 0, 0, false, HIGH));
        CHECK.due("a throw leaves the tape", x.count(6), 20);
        for (int i = 0; i < 100; i++) {
            CHECK.due("link", x.link(0, 0, i, false, 0), i);
            CHECK.due("ends", x.end(i), true);
        }
        CHECK.badState("101st, though all ended", () -> x.link(0, 0, 0, false, 0));
        CHECK.badArgument("order first", () -> x.link(0, 0, 100, false, 0));
        CHECK.outOfBounds("node first", () -> x.link(1, 0, 100, false, 0));
        Check.feed(x, "or");
        CHECK.badState("101st with a fault", () -> x.link(0, 0, 0, false, 2));
    }

    private static void fault() {
        CHECK.part("17 fault");
        PolicyTree x = sets(1);
        CHECK.due("none yet", x.fault(), -1);
        CHECK.due("link", Check.link(x, 0, 0, 0, false, "fact 1 or or"), -9);
        CHECK.due("place", x.fault(), 10);
        CHECK.due("asked again", x.fault(), 10);
        CHECK.outOfBounds("a link that throws", () -> x.link(9, 0, 0, false, 0));
        CHECK.due("has no fault of its own", x.fault(), 10);
        CHECK.due("a good one", Check.link(x, 0, 0, 0, false, "fact 1"), 0);
        CHECK.due("without", x.fault(), -1);
    }

    private static void end() {
        CHECK.part("18 end");
        PolicyTree x = Check.telling(1, 2);
        CHECK.outOfBounds("end(0)", () -> x.end(0));
        x.link(0, 0, 0, false, 0);
        x.link(0, 1, 0, false, 0);
        CHECK.due("ends", x.end(1), true);
        CHECK.dueValues("without it", x, 0, 0, 1);
        CHECK.due("had ended", x.end(1), false);
        CHECK.due("number told", x.link(0, 1, 0, false, 0), 2);
        CHECK.due("the first", x.end(0), true);
        CHECK.dueValues("the third", x, 0, 0, 2);
        CHECK.outOfBounds("end(3)", () -> x.end(3));
        CHECK.outOfBounds("end(-1)", () -> x.end(-1));
    }

    private static void outcome() {
        CHECK.part("19 outcome");
        PolicyTree x = Check.telling(4, 2, 4, 9);
        CHECK.due("none", x.outcome(0, 0), 0);
        for (int i = 0; i < 4; i++) {
            x.link(0, i, i, false, 0);
        }
        CHECK.due("LAST", x.outcome(0, 0), 1);
        x.law(0, 1);
        CHECK.due("LEAST", x.outcome(0, 0), 1);
        x.law(0, 2);
        CHECK.due("LIST, each once", x.outcome(0, 0), 3);
        CHECK.due("untold", x.outcome(0, 1), 0);
        CHECK.badArgument("setting 12", () -> x.outcome(0, 12));
        CHECK.badArgument("setting -1", () -> x.outcome(0, -1));
        CHECK.outOfBounds("machine 1", () -> x.outcome(1, 12));
        CHECK.outOfBounds("machine -1", () -> x.outcome(-1, 0));
    }

    private static void value() {
        CHECK.part("20 value");
        PolicyTree x = Check.telling(4, -2, 4, 9);
        for (int i = 0; i < 4; i++) {
            x.link(0, i, i, false, 0);
        }
        CHECK.dueValues("LAST", x, 0, 0, 9);
        x.law(0, 1);
        CHECK.dueValues("LEAST", x, 0, 0, -2);
        x.law(0, 2);
        CHECK.dueValues("LIST", x, 0, 0, 4, -2, 9);
        CHECK.due("k -1", x.value(0, 0, -1), 0);
        CHECK.due("k LOW", x.value(0, 0, LOW), 0);
        CHECK.due("k HIGH", x.value(0, 0, HIGH), 0);
        x.tell(1, 0, LOW);
        x.tell(3, 0, HIGH);
        x.law(0, 1);
        CHECK.dueValues("the least of all", x, 0, 0, LOW);
        CHECK.badArgument("setting 12", () -> x.value(0, 12, 0));
        CHECK.badArgument("setting -1", () -> x.value(0, -1, 0));
        CHECK.outOfBounds("machine 1", () -> x.value(1, -1, 0));
        CHECK.outOfBounds("machine -1", () -> x.value(-1, 0, 0));
    }

    private static void reason() {
        CHECK.part("21 reason");
        PolicyTree x = Check.telling(4, -2, 4, -2);
        CHECK.due("without", x.reason(0, 0), -1);
        for (int i = 0; i < 4; i++) {
            x.link(0, i, 9 - i, false, 0);
        }
        CHECK.due("LAST: the last", x.reason(0, 0), 0);
        x.law(0, 1);
        CHECK.due("LEAST: the first with it", x.reason(0, 0), 3);
        x.law(0, 2);
        CHECK.due("LIST: the last, though its value came before", x.reason(0, 0), 0);
        CHECK.due("of a setting untold, behind one that is told", x.reason(0, 1), -1);
        CHECK.badArgument("setting 12", () -> x.reason(0, 12));
        CHECK.badArgument("setting -1", () -> x.reason(0, -1));
        CHECK.outOfBounds("machine 1", () -> x.reason(1, 12));
        CHECK.outOfBounds("machine -1", () -> x.reason(-1, 0));
    }

    private static void beaten() {
        CHECK.part("22 beaten");
        PolicyTree x = Check.telling(4, -2, 4, 8);
        x.untell(3, 0);
        CHECK.due("without", x.beaten(0, 0, 0), -1);
        x.link(0, 0, 5, false, 0);
        x.link(0, 1, 4, false, 0);
        x.link(0, 3, 3, false, 0);
        x.link(0, 2, 2, false, 0);
        Check.link(x, 0, 2, 1, false, "fact 0");
        CHECK.due("first", x.beaten(0, 0, 0), 3);
        CHECK.due("second", x.beaten(0, 0, 1), 1);
        CHECK.due("no third", x.beaten(0, 0, 2), -1);
        CHECK.due("of a setting untold", x.beaten(0, 1, 0), -1);
        x.law(0, 1);
        CHECK.due("of LEAST, first", x.beaten(0, 0, 0), 3);
        CHECK.due("of LEAST, second", x.beaten(0, 0, 1), 0);
        x.law(0, 2);
        CHECK.due("of LIST, first", x.beaten(0, 0, 0), 3);
        CHECK.due("of LIST, second", x.beaten(0, 0, 1), 1);
        CHECK.due("of LIST, no third", x.beaten(0, 0, 2), -1);
        CHECK.due("k -1", x.beaten(0, 0, -1), -1);
        CHECK.due("k LOW", x.beaten(0, 0, LOW), -1);
        CHECK.due("k HIGH", x.beaten(0, 0, HIGH), -1);
        CHECK.badArgument("setting 12", () -> x.beaten(0, 12, 0));
        CHECK.badArgument("setting -1", () -> x.beaten(0, -1, 0));
        CHECK.outOfBounds("machine 1", () -> x.beaten(1, 12, 0));
        CHECK.outOfBounds("machine -1", () -> x.beaten(-1, 0, 0));
    }

    private static void sure() {
        CHECK.part("23 sure");
        for (int f = 0; f < 8; f++) {
            PolicyTree x = Check.telling(1, 2, 1);
            CHECK.due("nothing told", x.sure(0, 0), true);
            x.link(0, 0, 0, false, 0);
            CHECK.due("no filter", x.sure(0, 0), true);
            int doubtful = Check.link(x, 0, 1, 1, false, "fact " + f);
            CHECK.due("fact " + f + " not known", x.sure(0, 0), false);
            x.fact(0, f, 0);
            CHECK.due("no", x.sure(0, 0), true);
            x.fact(0, f, 1);
            CHECK.due("yes", x.sure(0, 0), true);
            x.fact(0, f, -1);
            x.law(0, 1);
            CHECK.due("LEAST stays", x.sure(0, 0), true);
            x.law(0, 0);
            Check.link(x, 0, 2, 2, false, "fact " + f);
            CHECK.due("beaten by a like value whenever it holds", x.sure(0, 0), true);
            x.end(doubtful);
            CHECK.due("the value is the same, whichever link tells it", x.sure(0, 0), true);
        }
        PolicyTree x = Check.telling(1, 2, 3);
        Check.link(x, 0, 0, 0, false, "fact 6");
        Check.link(x, 0, 0, 0, false, "not fact 6");
        CHECK.due("one of two holds always", x.sure(0, 0), true);
        Check.link(x, 0, 1, 9, false, "fact 0 and fact 1 and fact 2 and fact 3 and fact 4 and fact 5 and fact 6 and fact 7");
        CHECK.due("one guess of 256", x.sure(0, 0), false);
        x.fact(0, 3, 0);
        CHECK.due("none of 128", x.sure(0, 0), true);
        CHECK.badArgument("setting 12", () -> x.sure(0, 12));
        CHECK.badArgument("setting -1", () -> x.sure(0, -1));
        CHECK.outOfBounds("machine 1", () -> x.sure(1, 12));
        CHECK.outOfBounds("machine -1", () -> x.sure(-1, 0));
    }

    private static void sureOfLists() {
        CHECK.part("23 sure of lists");
        PolicyTree x = Check.telling(1, 2);
        x.law(0, 2);
        x.link(0, 0, 1, false, 0);
        x.link(0, 1, 2, false, 0);
        int later = Check.link(x, 0, 0, 3, false, "fact 7");
        CHECK.due("once more behind", x.sure(0, 0), true);
        x.end(later);
        Check.link(x, 0, 1, 0, false, "fact 7");
        CHECK.due("once more ahead, so another order", x.sure(0, 0), false);
    }

    private static void reach() {
        CHECK.part("24 reach");
        PolicyTree x = Check.telling(1, 2, 2);
        x.node(0);
        x.machine(1);
        x.machine(1);
        x.tell(1, 4, 0);
        x.tell(1, 11, 0);
        x.link(0, 0, 0, false, 0);
        CHECK.due("all machines", x.reach(0), 3);
        x.link(1, 1, 0, false, 0);
        CHECK.due("those below, three settings", x.reach(1), 6);
        CHECK.due("beaten there", x.reach(0), 1);
        x.link(1, 2, 0, false, 0);
        CHECK.due("a like value stays", x.reach(1), 4);
        CHECK.due("of the last, too", x.reach(2), 0);
        x.law(0, 2);
        CHECK.due("first in lists", x.reach(0), 3);
        x.end(0);
        CHECK.due("ended", x.reach(0), 0);
        x.law(0, 0);
        int filtered = Check.link(x, 1, 0, 9, false, "fact 0");
        CHECK.due("holds nowhere", x.reach(filtered), 0);
        x.fact(2, 0, 1);
        CHECK.due("holds once", x.reach(filtered), 1);
        CHECK.outOfBounds("link 4", () -> x.reach(4));
        CHECK.outOfBounds("link -1", () -> x.reach(-1));
        PolicyTree y = Check.telling(1, 2);
        y.law(0, 2);
        y.link(0, 0, 0, false, 0);
        y.link(0, 1, 1, false, 0);
        y.link(0, 0, 2, false, 0);
        CHECK.due("a list in another order is another outcome", y.reach(0), 1);
        CHECK.due("once more behind", y.reach(2), 0);
    }

    private static void reached() {
        CHECK.part("25 reached");
        PolicyTree x = Check.telling(1);
        x.machine(0);
        x.tell(0, 3, 5);
        x.tell(0, 11, 6);
        x.link(0, 0, 0, false, 0);
        int[] due = {0, 3, 11};
        for (int k = 0; k < 6; k++) {
            CHECK.due("machine " + k, x.reached(0, k, 0), k / 3);
            CHECK.due("setting " + k, x.reached(0, k, 1), due[k % 3]);
        }
        for (int what = 0; what < 2; what++) {
            CHECK.due("k 6", x.reached(0, 6, what), -1);
            CHECK.due("k -1", x.reached(0, -1, what), -1);
            CHECK.due("k HIGH", x.reached(0, HIGH, what), -1);
        }
        CHECK.badArgument("what 2", () -> x.reached(0, 0, 2));
        CHECK.badArgument("what -1", () -> x.reached(0, 0, -1));
        CHECK.outOfBounds("link 1", () -> x.reached(1, 0, 2));
        CHECK.outOfBounds("link -1", () -> x.reached(-1, 0, 0));
        x.end(0);
        CHECK.due("ended", x.reached(0, 0, 0), -1);
        CHECK.badArgument("what 2 of an ended one", () -> x.reached(0, 0, 2));
    }

    private static void quarrels() {
        CHECK.part("26 quarrels");
        PolicyTree x = Check.telling(1, 2, 1);
        x.node(0);
        x.tell(0, 5, 1);
        x.tell(1, 5, 2);
        x.link(0, 0, 4, false, 0);
        x.link(0, 2, 4, false, 0);
        CHECK.due("like values", x.quarrels(), 0);
        x.link(0, 1, 5, false, 0);
        CHECK.due("another order", x.quarrels(), 0);
        x.link(1, 1, 4, false, 0);
        CHECK.due("another node", x.quarrels(), 0);
        x.link(0, 1, 4, true, 0);
        CHECK.due("forced", x.quarrels(), 0);
        Check.link(x, 0, 1, 4, false, "fact 0 and not fact 0");
        CHECK.due("two, once each, filters or not", x.quarrels(), 2);
        x.law(0, 1);
        CHECK.due("by setting 5 alone", x.quarrels(), 1);
        x.law(5, 2);
        CHECK.due("no LAST", x.quarrels(), 0);
        x.law(0, 0);
        CHECK.due("by setting 0 alone", x.quarrels(), 2);
        x.end(0);
        CHECK.due("one ended", x.quarrels(), 1);
        x.untell(1, 0);
        CHECK.due("untold", x.quarrels(), 0);
        PolicyTree y = Check.telling(1, 2);
        y.link(0, 0, 4, true, 0);
        y.link(0, 1, 4, true, 0);
        CHECK.due("both forced", y.quarrels(), 1);
    }

    private static void quarrel() {
        CHECK.part("27 quarrel");
        PolicyTree x = Check.telling(1, 2, 3);
        CHECK.due("none", x.quarrel(0, 0), -1);
        x.link(0, 0, 4, false, 0);
        x.link(0, 0, 4, false, 0);
        x.link(0, 1, 4, false, 0);
        x.link(0, 2, 4, false, 0);
        int[][] due = {{0, 2}, {0, 3}, {1, 2}, {1, 3}, {2, 3}};
        for (int k = 0; k < due.length; k++) {
            CHECK.due("lower " + k, x.quarrel(k, 0), due[k][0]);
            CHECK.due("other " + k, x.quarrel(k, 1), due[k][1]);
        }
        for (int what = 0; what < 2; what++) {
            CHECK.due("k 5", x.quarrel(5, what), -1);
            CHECK.due("k -1", x.quarrel(-1, what), -1);
            CHECK.due("k LOW", x.quarrel(LOW, what), -1);
            CHECK.due("k HIGH", x.quarrel(HIGH, what), -1);
        }
        CHECK.badArgument("what 2", () -> x.quarrel(0, 2));
        CHECK.badArgument("what -1", () -> x.quarrel(0, -1));
        CHECK.badArgument("what 2 of none", () -> x.quarrel(-1, 2));
    }

    private static void count() {
        CHECK.part("28 count");
        PolicyTree x = new PolicyTree();
        x.node(0);
        x.machine(1);
        x.machine(1);
        x.machine(1);
        for (int i = 0; i < 4; i++) {
            x.group();
        }
        for (int i = 0; i < 5; i++) {
            x.set();
        }
        for (int i = 0; i < 7; i++) {
            x.link(0, 0, 0, false, 0);
        }
        x.end(3);
        x.feed(0, 0, 0, 0, 0);
        int[] due = {2, 3, 4, 5, 7, 6, 20};
        for (int what = 0; what < due.length; what++) {
            CHECK.due("count " + what, x.count(what), due[what]);
        }
        CHECK.due("count 7", x.count(7), -1);
        CHECK.due("count -1", x.count(-1), -1);
        CHECK.due("count HIGH", x.count(HIGH), -1);
    }
}
