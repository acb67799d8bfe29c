import java.io.IOException;
import java.util.function.Consumer;
import java.util.function.ObjIntConsumer;

/** Each sentence of each promise, in the document's order, at its edges: too small, too large, empty, full, refused. */
public final class EdgeTests {
    private static final Check CHECK = new Check();
    private static final int LOW = Integer.MIN_VALUE;
    private static final int HIGH = Integer.MAX_VALUE;
    private static final Class<IndexOutOfBoundsException> BOUNDS = IndexOutOfBoundsException.class;
    private static final Class<IllegalArgumentException> ARGUMENT = IllegalArgumentException.class;
    private static final int BLANKS = 0x20202020;
    private static Doc doc;

    private interface Part {
        void test();
    }

    public static void main(String[] args) throws IOException {
        Part[] parts = {
            EdgeTests::newObject, EdgeTests::node, EdgeTests::block, EdgeTests::move, EdgeTests::machine, EdgeTests::fact,
            EdgeTests::group, EdgeTests::joins, EdgeTests::within, EdgeTests::member, EdgeTests::set, EdgeTests::tell,
            EdgeTests::untell, EdgeTests::law, EdgeTests::feed, EdgeTests::link, EdgeTests::fault, EdgeTests::end,
            EdgeTests::outcome, EdgeTests::value, EdgeTests::reason, EdgeTests::beaten, EdgeTests::sure, EdgeTests::reach,
            EdgeTests::reached, EdgeTests::quarrels, EdgeTests::quarrel, EdgeTests::count
        };
        for (int i = 0; i < parts.length; i++) {
            doc = new Doc(CHECK, "Promise " + (i + 1) + ":");
            parts[i].test();
            doc.allIsTested();
        }
        doc = new Doc(CHECK, "What it is");
        calls();
        CHECK.finish();
    }

    /** A machine at the root, and sets that tell these values of setting 0, each linked there by order 0. */
    private static PolicyTree linked(int... values) {
        PolicyTree x = Check.telling(values);
        for (int i = 0; i < values.length; i++) {
            x.link(0, i, 0, false, 0);
        }
        return x;
    }

    /** The call is refused for every number that is none of 0 to size - 1, and then changes nothing. */
    private static void refusedOutside(String call, int size, Class<? extends RuntimeException> due,
            ObjIntConsumer<PolicyTree> run) {
        for (int bad : new int[] {-1, size, size + 1, LOW, HIGH, LOW + size - 1}) {
            Scene.refused(CHECK, call + " " + bad, due, x -> run.accept(x, bad));
        }
        for (int good : new int[] {0, size - 1}) {
            run.accept(Scene.make(), good);
        }
    }

    private static void refused(String call, Class<? extends RuntimeException> due, Consumer<PolicyTree> run) {
        Scene.refused(CHECK, call, due, run);
    }

    private static void newObject() {
        doc.says("The ROOT alone.");
        PolicyTree x = new PolicyTree();
        for (int what = 0; what < 7; what++) {
            CHECK.due("count " + what, x.count(what), what == 0 ? 1 : 0);
        }
        CHECK.due("no fault", x.fault(), -1);
        CHECK.due("no quarrels", x.quarrels(), 0);
        CHECK.due("no quarrel", x.quarrel(0, 1), -1);
        CHECK.due("the root stays", x.move(0, 0), -1);
        CHECK.outOfBounds("no node below", () -> x.block(1, true));
        CHECK.outOfBounds("no machine", () -> x.fact(0, 0, 1));
        CHECK.outOfBounds("no group", () -> x.within(0, 0, true));
        CHECK.outOfBounds("no set", () -> x.tell(0, 0, 0));
        CHECK.outOfBounds("no set to link", () -> x.link(0, 0, 0, false, 0));
        CHECK.outOfBounds("no link", () -> x.reach(0));
        CHECK.outOfBounds("no outcome", () -> x.outcome(0, 0));
        PolicyTree y = Scene.make();
        CHECK.due("one object is not another", new PolicyTree().count(0), 1);
        Scene.unchanged(CHECK, "another object", y);
    }

    private static void node() {
        doc.says("A NODE: its number.");
        PolicyTree x = new PolicyTree();
        CHECK.due("the first behind the root", x.node(0), 1);
        CHECK.due("the second", x.node(1), 2);
        CHECK.due("at the root again", x.node(0), 3);

        doc.says("IndexOutOfBoundsException: no such NODE above (so below for what is none such);");
        refusedOutside("node", Scene.NODES, BOUNDS, (y, n) -> y.node(n));

        doc.says("IllegalStateException: there are 60.");
        for (int i = 4; i < 60; i++) {
            CHECK.due("node", x.node(i % 3), i);
        }
        CHECK.badState("at the root", () -> x.node(0));
        CHECK.badState("at the last", () -> x.node(59));
        CHECK.outOfBounds("none such goes first", () -> x.node(60));
        CHECK.due("still 60", x.count(0), 60);
        Scene.refusedWhenFull(CHECK, "node", 60 - Scene.NODES, y -> y.node(3));
        CHECK.outOfBounds("60 is none", () -> x.block(60, true));
    }

    private static void block() {
        doc.says("A NODE is BLOCKED, or not: what it was.");
        PolicyTree x = new PolicyTree();
        for (int i = 1; i < 60; i++) {
            x.node(i - 1);
        }
        for (int n = 0; n < 60; n += 59) {
            CHECK.due("open, stays open", x.block(n, false), false);
            CHECK.due("open, is blocked", x.block(n, true), false);
            CHECK.due("blocked, stays so", x.block(n, true), true);
            CHECK.due("blocked, is open", x.block(n, false), true);
            CHECK.due("open again", x.block(n, true), false);
        }
        CHECK.due("no other one", x.block(58, false), false);
        refusedOutside("block", Scene.NODES, BOUNDS, (y, n) -> y.block(n, true));
        refusedOutside("open", Scene.NODES, BOUNDS, (y, n) -> y.block(n, false));
    }

    private static void move() {
        doc.says("A NODE comes below another one: how many OUTCOMES (of all MACHINES and SETTINGS) are others now;");
        PolicyTree x = new PolicyTree();
        x.node(0);
        x.node(0);
        x.node(1);
        CHECK.due("no machines", x.move(3, 2), 0);
        CHECK.due("where it is", x.move(3, 2), 0);
        for (int i = 0; i < 60; i++) {
            x.machine(3);
        }
        x.set();
        x.set();
        x.link(2, 0, 0, false, 0);
        x.link(1, 1, 0, true, 0);
        for (int s = 0; s < 12; s++) {
            x.law(s, s % 3);
            x.tell(0, s, 0);
        }
        CHECK.due("all there are, told no more", x.move(3, 1), 720);
        CHECK.due("all of them told, with value 0", x.move(3, 2), 720);
        CHECK.due("where it is, with all that", x.move(3, 2), 0);
        x.tell(1, 0, 0);
        CHECK.due("but one that is told the same", x.move(3, 1), 660);
        x.tell(1, 11, 1);
        CHECK.due("another value, and like ones", x.move(3, 2), 660);
        CHECK.due("up by one, with all that is below", x.move(2, 1), 60);
        CHECK.due("it went along", x.move(3, 1), 600 + 60);
        refusedOutside("move", Scene.NODES, BOUNDS, (y, n) -> y.move(n, 1));
        refusedOutside("move below", Scene.NODES, BOUNDS, (y, n) -> y.move(4, n));
        refused("move the root below none such", BOUNDS, y -> y.move(0, Scene.NODES));

        doc.says("NONE, and nothing changes: it is the ROOT, or that one is it or below it.");
        int[][] refused = {{0, 0}, {0, 1}, {0, 4}, {1, 1}, {1, 2}, {1, 3}, {2, 3}, {4, 4}};
        for (int[] pair : refused) {
            PolicyTree y = Scene.make();
            String call = "move(" + pair[0] + ", " + pair[1] + ")";
            CHECK.due(call, y.move(pair[0], pair[1]), -1);
            Scene.unchanged(CHECK, call, y);
        }
        PolicyTree y = Scene.make();
        CHECK.due("above it is fine: it comes up", y.move(3, 0) >= 0, true);
        CHECK.due("so is beside it", y.move(1, 4) >= 0, true);
        CHECK.due("below what was below it", y.move(1, 3) >= 0, true);
        CHECK.due("which is above it now", y.move(3, 2), -1);
    }

    private static void machine() {
        doc.says("A MACHINE: its number.");
        PolicyTree x = new PolicyTree();
        x.node(0);
        CHECK.due("the first", x.machine(1), 0);
        CHECK.due("the second", x.machine(0), 1);
        refusedOutside("machine", Scene.NODES, BOUNDS, (y, n) -> y.machine(n));

        doc.says("IllegalStateException: there are 60.");
        for (int i = 2; i < 60; i++) {
            CHECK.due("machine", x.machine(1), i);
        }
        CHECK.badState("a 61st", () -> x.machine(0));
        CHECK.outOfBounds("none such goes first", () -> x.machine(2));
        CHECK.due("still 60", x.count(1), 60);
        Scene.refusedWhenFull(CHECK, "machine", 60 - Scene.MACHINES, y -> y.machine(3));
        CHECK.outOfBounds("60 is none", () -> x.outcome(60, 0));
    }

    private static void fact() {
        doc.says("A FACT of a MACHINE: 1 yes, 0 no, -1 not known: what it was.");
        PolicyTree x = new PolicyTree();
        for (int i = 0; i < 60; i++) {
            x.machine(0);
        }
        int last = 59;
        int was = -1;
        for (int v : new int[] {-1, 0, 0, 1, 1, -1, -1, 1, 0, -1}) {
            CHECK.due("fact 7 was", x.fact(last, 7, v), was);
            was = v;
        }
        refusedOutside("fact of", Scene.MACHINES, BOUNDS, (y, m) -> y.fact(m, 3, 1));

        doc.says("IllegalArgumentException: no such FACT, or another v.");
        refusedOutside("fact", 8, ARGUMENT, (y, f) -> y.fact(0, f, 1));
        for (int bad : new int[] {-2, 2, LOW, HIGH, 255, 256, -256}) {
            refused("v " + bad, ARGUMENT, y -> y.fact(0, 0, bad));
        }
        refused("no such machine goes first", BOUNDS, y -> y.fact(Scene.MACHINES, 8, 2));
    }

    private static void group() {
        doc.says("A GROUP: its number.");
        PolicyTree x = new PolicyTree();
        CHECK.due("the first", x.group(), 0);
        CHECK.due("the second", x.group(), 1);

        doc.says("IllegalStateException: there are 20.");
        for (int i = 2; i < 20; i++) {
            CHECK.due("group", x.group(), i);
        }
        CHECK.badState("a 21st", () -> x.group());
        CHECK.badState("and again", () -> x.group());
        CHECK.due("still 20", x.count(2), 20);
        Scene.refusedWhenFull(CHECK, "group", 20 - Scene.GROUPS, y -> y.group());
        CHECK.outOfBounds("20 is none", () -> x.within(20, 0, true));
    }

    private static void joins() {
        doc.says("A MACHINE is in a GROUP, or not: what it was.");
        PolicyTree x = new PolicyTree();
        for (int i = 0; i < 60; i++) {
            x.machine(0);
        }
        for (int i = 0; i < 20; i++) {
            x.group();
        }
        for (int g = 0; g < 20; g += 19) {
            for (int m : new int[] {0, 31, 32, 59}) {
                CHECK.due("out, stays out", x.joins(g, m, false), false);
                CHECK.due("out, comes in", x.joins(g, m, true), false);
                CHECK.due("in, stays in", x.joins(g, m, true), true);
                CHECK.due("the one before it", x.joins(g, m == 0 ? 58 : m - 1, false), m == 32);
                CHECK.due("in, goes out", x.joins(g, m, m == 31), true);
            }
        }
        refusedOutside("joins group", Scene.GROUPS, BOUNDS, (y, g) -> y.joins(g, 1, true));
        refusedOutside("joins machine", Scene.MACHINES, BOUNDS, (y, m) -> y.joins(1, m, true));
    }

    private static void within() {
        doc.says("A GROUP (the second) is in another one, or itself, or not: what it was.");
        PolicyTree x = new PolicyTree();
        for (int i = 0; i < 20; i++) {
            x.group();
        }
        int[][] pairs = {{0, 0}, {0, 19}, {19, 0}, {19, 19}};
        for (int[] p : pairs) {
            CHECK.due("out, stays out", x.within(p[0], p[1], false), false);
            CHECK.due("out, comes in", x.within(p[0], p[1], true), false);
            CHECK.due("in, stays in", x.within(p[0], p[1], true), true);
        }
        CHECK.due("no other one", x.within(0, 18, false), false);
        for (int[] p : pairs) {
            CHECK.due("in, goes out", x.within(p[0], p[1], false), true);
            CHECK.due("out again", x.within(p[0], p[1], false), false);
        }
        x.machine(0);
        x.joins(19, 0, true);
        x.within(0, 19, true);
        CHECK.due("the second is in the first", x.member(0, 0), true);
        x.within(0, 19, false);
        x.within(19, 0, true);
        CHECK.due("not the first in the second", x.member(0, 0), false);
        refusedOutside("within", Scene.GROUPS, BOUNDS, (y, g) -> y.within(g, 2, true));
        refusedOutside("within, the second", Scene.GROUPS, BOUNDS, (y, g) -> y.within(2, g, true));
    }

    private static void member() {
        doc.says("Whether a MACHINE is a MEMBER.");
        PolicyTree x = new PolicyTree();
        for (int i = 0; i < 60; i++) {
            x.machine(0);
        }
        for (int i = 0; i < 20; i++) {
            x.group();
        }
        CHECK.due("of an empty group", x.member(19, 59), false);
        for (int i = 0; i < 19; i++) {
            x.within(i + 1, i, true);
        }
        x.joins(0, 59, true);
        x.joins(19, 0, true);
        CHECK.due("by a chain of all groups", x.member(19, 59), true);
        CHECK.due("not down the chain", x.member(18, 0), false);
        x.within(10, 9, false);
        CHECK.due("by a broken chain", x.member(19, 59), false);
        CHECK.due("up to the break", x.member(9, 59), true);
        refusedOutside("member of", Scene.GROUPS, BOUNDS, (y, g) -> y.member(g, 0));
        refusedOutside("member", Scene.MACHINES, BOUNDS, (y, m) -> y.member(0, m));
    }

    private static void set() {
        doc.says("A SET: its number.");
        PolicyTree x = new PolicyTree();
        CHECK.due("the first", x.set(), 0);
        CHECK.due("the second", x.set(), 1);

        doc.says("IllegalStateException: there are 40.");
        for (int i = 2; i < 40; i++) {
            CHECK.due("set", x.set(), i);
        }
        CHECK.badState("a 41st", () -> x.set());
        CHECK.badState("and again", () -> x.set());
        CHECK.due("still 40", x.count(3), 40);
        Scene.refusedWhenFull(CHECK, "set", 40 - Scene.SETS, y -> y.set());
        CHECK.outOfBounds("40 is none", () -> x.untell(40, 0));
        CHECK.outOfBounds("40 is none to link", () -> x.link(0, 40, 0, false, 0));
    }

    private static void tell() {
        doc.says("A SET tells a VALUE of a SETTING: true: it told another one, or none.");
        PolicyTree x = new PolicyTree();
        x.set();
        x.set();
        for (int s = 0; s < 12; s += 11) {
            CHECK.due("0, where none was", x.tell(0, s, 0), true);
            CHECK.due("0 again", x.tell(0, s, 0), false);
            CHECK.due("the least", x.tell(0, s, LOW), true);
            CHECK.due("the most", x.tell(0, s, HIGH), true);
            CHECK.due("the most again", x.tell(0, s, HIGH), false);
            CHECK.due("another set", x.tell(1, s, HIGH), true);
            x.untell(0, s);
            CHECK.due("the same, but untold", x.tell(0, s, HIGH), true);
        }
        refusedOutside("tell", Scene.SETS, BOUNDS, (y, t) -> y.tell(t, 0, 77));

        doc.says("IllegalArgumentException: no such SETTING.");
        refusedOutside("tell of", 12, ARGUMENT, (y, s) -> y.tell(0, s, 77));
        refused("no such set goes first", BOUNDS, y -> y.tell(Scene.SETS, 12, 0));
    }

    private static void untell() {
        doc.says("A SET tells nothing of a SETTING any more: whether it did.");
        PolicyTree x = new PolicyTree();
        x.set();
        x.set();
        for (int s = 0; s < 12; s += 11) {
            CHECK.due("never told", x.untell(0, s), false);
            x.tell(0, s, 0);
            CHECK.due("another set", x.untell(1, s), false);
            CHECK.due("another setting", x.untell(0, 5), false);
            CHECK.due("told 0", x.untell(0, s), true);
            CHECK.due("untold", x.untell(0, s), false);
        }
        refusedOutside("untell", Scene.SETS, BOUNDS, (y, t) -> y.untell(t, 0));

        doc.says("IllegalArgumentException likewise.");
        refusedOutside("untell of", 12, ARGUMENT, (y, s) -> y.untell(0, s));
        refused("no such set goes first", BOUNDS, y -> y.untell(Scene.SETS, 12));
    }

    private static void law() {
        doc.says("The LAW of a SETTING: what it was.");
        PolicyTree x = new PolicyTree();
        for (int s = 0; s < 12; s += 11) {
            int was = 0;
            for (int law : new int[] {0, 1, 1, 2, 2, 0, 2, 1, 0}) {
                CHECK.due("law was", x.law(s, law), was);
                was = law;
            }
            x.law(s, 2);
        }
        CHECK.due("no other one", x.law(10, 1), 0);

        doc.says("IllegalArgumentException: no such SETTING, LAW.");
        refusedOutside("law of", 12, ARGUMENT, (y, s) -> y.law(s, 1));
        refusedOutside("law", 3, ARGUMENT, (y, law) -> y.law(0, law));
    }

    private static void feed() {
        doc.says("Twenty bytes come on the TAPE, of each number the highest first: how many there are;");
        PolicyTree x = linked(1);
        CHECK.due("the first twenty", x.feed(0x66616374, 0x20202020, 0x20202020, 0x20202020, 0x20202037), 20);
        CHECK.due("forty", x.feed(0x20616e64, 0x206e6f74, 0x20202020, 0x20202020, 0x66616374), 40);
        CHECK.due("sixty", x.feed(0x20360000, LOW, HIGH, -1, 0), 60);
        CHECK.due("all in their order", x.link(0, 0, 1, false, 42), 1);
        CHECK.due("fact 7 is not known", x.reason(0, 0), 0);
        x.fact(0, 7, 1);
        CHECK.due("fact 7 and not fact 6", x.reason(0, 0), 1);
        x.fact(0, 6, 1);
        CHECK.due("fact 6 is yes", x.reason(0, 0), 0);
        CHECK.due("from the start again", x.feed(-1, -1, -1, -1, -1), 20);
        CHECK.due("bytes 255 stand nowhere", x.link(0, 0, 0, false, 20), -9);
        for (int i = 0; i < 4; i++) {
            x.feed(BLANKS, BLANKS ^ 1 << 24 - 8 * i, BLANKS, BLANKS, BLANKS);
            CHECK.due("byte " + i + " of a number", x.link(0, 0, 0, false, 20), -9);
            CHECK.due("its place", x.fault(), 4 + i);
        }

        doc.says("NONE, doing nothing, if there would be more than 200.");
        x.feed(0x66616374, BLANKS, BLANKS, BLANKS, BLANKS);
        for (int i = 2; i <= 9; i++) {
            CHECK.due("feed", x.feed(BLANKS, BLANKS, BLANKS, BLANKS, BLANKS), 20 * i);
        }
        CHECK.due("up to 200", x.feed(BLANKS, BLANKS, BLANKS, BLANKS, 0x20202037), 200);
        CHECK.due("no more", x.feed(0, 0, 0, 0, 0), -1);
        CHECK.due("nor then", x.feed(-1, -1, -1, -1, -1), -1);
        CHECK.due("200 stay", x.count(6), 200);
        CHECK.due("as they were", x.link(0, 0, 2, false, 200), 2);
        CHECK.due("fact 7", x.reason(0, 0), 2);
        CHECK.due("room again", x.feed(0, 0, 0, 0, 0), 20);
    }

    private static void link() {
        doc.says("A LINK; the first n bytes of the TAPE (empty then) are its FILTER: its number, or its FAULT less 10.");
        PolicyTree x = linked(1);
        CHECK.due("no bytes", x.link(0, 0, 0, false, 0), 1);
        Check.feed(x, "fact 1");
        CHECK.due("n of 0", x.link(0, 0, 0, false, 0), 2);
        CHECK.due("the tape is empty then", x.count(6), 0);
        CHECK.badArgument("so no byte is left", () -> x.link(0, 0, 0, false, 1));
        Check.feed(x, "fact 1              fact 2");
        CHECK.due("some of them", x.link(0, 0, 0, false, 6), 3);
        CHECK.due("the others are gone, too", x.count(6), 0);
        Check.feed(x, "fact 1              ");
        CHECK.due("all of them", x.link(0, 0, 0, false, 20), 4);
        int[] faults = {-9, -8, -7};
        String[] texts = {"fact", "fact 8", "(((((((((((fact 1"};
        for (int i = 0; i < 3; i++) {
            CHECK.due("fault " + (i + 1), Check.link(x, 0, 0, 0, false, texts[i]), faults[i]);
            CHECK.due("the tape is empty then, too", x.count(6), 0);
            CHECK.due("no link is told", x.count(4), 5);
        }
        CHECK.outOfBounds("none such", () -> x.end(5));
        CHECK.due("the next number", x.link(0, 0, 0, false, 0), 5);
        refusedOutside("link at", Scene.NODES, BOUNDS, (y, n) -> y.link(n, 0, 0, false, 0));
        refusedOutside("link", Scene.SETS, BOUNDS, (y, t) -> y.link(0, t, 0, false, 0));

        doc.says("IllegalArgumentException: the ORDER, or n is not 0 to the TAPE's bytes;");
        refusedOutside("order", 100, ARGUMENT, (y, order) -> y.link(0, 0, order, false, 0));
        refusedOutside("order of a forced one", 100, ARGUMENT, (y, order) -> y.link(0, 0, order, true, 0));
        refusedOutside("n", Scene.TAPE + 1, ARGUMENT, (y, n) -> y.link(0, 0, 0, false, n));
        refused("no such node goes first", BOUNDS, y -> y.link(Scene.NODES, 0, 100, false, 21));
        refused("no such set goes first", BOUNDS, y -> y.link(0, Scene.SETS, 100, false, 21));
        linkFull();
    }

    private static void linkFull() {
        doc.says("IllegalStateException: there were 100.");
        PolicyTree x = linked(1);
        for (int i = 1; i < 100; i++) {
            CHECK.due("link", x.link(0, 0, i, false, 0), i);
            x.end(i);
        }
        Check.feed(x, "or");
        CHECK.badState("all but one ended", () -> x.link(0, 0, 0, false, 0));
        CHECK.badState("a fault is not looked for", () -> x.link(0, 0, 0, false, 2));
        CHECK.badArgument("a wrong order goes first", () -> x.link(0, 0, 100, false, 0));
        CHECK.badArgument("a wrong n goes first", () -> x.link(0, 0, 0, false, 21));
        CHECK.outOfBounds("no such set goes first", () -> x.link(0, 1, 0, false, 0));
        CHECK.outOfBounds("no such node goes first", () -> x.link(1, 0, 0, false, 0));
        CHECK.due("the tape stays", x.count(6), 20);
        CHECK.due("no fault", x.fault(), -1);
        CHECK.due("100 told", x.count(4), 100);
        CHECK.due("one lasts", x.count(5), 1);
        PolicyTree y = linked(1);
        for (int i = 1; i < 99; i++) {
            y.link(0, 0, i, false, 0);
        }
        CHECK.due("99 links and a fault", Check.link(y, 0, 0, 0, false, "or"), -9);
        CHECK.due("that was no 100th", y.link(0, 0, 0, false, 0), 99);
        CHECK.badState("this was", () -> y.link(0, 0, 0, false, 0));
        Scene.refusedWhenFull(CHECK, "link", 100 - Scene.LINKS, z -> z.link(3, 5, 0, true, 0));
    }

    private static void fault() {
        doc.says("The place of the FAULT of the latest link(); NONE without.");
        PolicyTree x = linked(1);
        CHECK.due("without", x.fault(), -1);
        CHECK.due("at the first byte", Check.link(x, 0, 0, 0, false, "or"), -9);
        CHECK.due("place 0", x.fault(), 0);
        CHECK.due("and again", x.fault(), 0);
        CHECK.due("at the last byte of a full tape", Check.link(x, 0, 0, 0, false, " ".repeat(199) + "x"), -9);
        CHECK.due("place 199", x.fault(), 199);
        CHECK.due("behind it", Check.link(x, 0, 0, 0, false, "(" + " ".repeat(199)), -9);
        CHECK.due("place 200", x.fault(), 200);
        CHECK.due("another kind", Check.link(x, 0, 0, 0, false, "not group 0"), -8);
        CHECK.due("place 10", x.fault(), 10);
        x.end(0);
        x.feed(0, 0, 0, 0, 0);
        CHECK.due("other calls leave it", x.fault(), 10);
        CHECK.badArgument("one that is refused", () -> x.link(0, 0, 100, false, 0));
        CHECK.due("tells no other place", x.fault(), 10);
        CHECK.due("a good one", x.link(0, 0, 0, false, 0), 1);
        CHECK.due("is without", x.fault(), -1);
        Scene.unchanged(CHECK, "making", Scene.make());
        CHECK.due("of the scene", Scene.make().fault(), Scene.FAULT);
    }

    private static void end() {
        doc.says("A LINK ends: true; false: it had.");
        PolicyTree x = linked(1, 2, 3);
        CHECK.due("the first of its node", x.end(0), true);
        x.law(0, 2);
        CHECK.due("two are left", x.outcome(0, 0), 2);
        CHECK.due("the second one is first now", x.value(0, 0, 0), 2);
        CHECK.due("it had", x.end(0), false);
        CHECK.due("still two", x.outcome(0, 0), 2);
        CHECK.due("the last of its node", x.end(2), true);
        CHECK.due("one is left", x.value(0, 0, 0), 2);
        CHECK.due("the last of all", x.end(1), true);
        CHECK.due("none is left", x.outcome(0, 0), 0);
        for (int i = 0; i < 3; i++) {
            CHECK.due("all had", x.end(i), false);
        }
        CHECK.due("numbers go on", x.link(0, 0, 0, false, 0), 3);
        CHECK.due("the new one lasts", x.end(3), true);
        refusedOutside("end", Scene.LINKS, BOUNDS, (y, l) -> y.end(l));
        PolicyTree y = Scene.make();
        CHECK.due("one that had", y.end(7), false);
        Scene.unchanged(CHECK, "end of one that had", y);
    }

    private static void outcome() {
        doc.says("How many VALUES an OUTCOME has (0: none; 1, but for LIST).");
        PolicyTree x = linked();
        for (int law = 0; law < 3; law++) {
            x.law(0, law);
            CHECK.due("none, by law " + law, x.outcome(0, 0), 0);
        }
        PolicyTree y = linked(3, 2, 3, 1);
        for (int law = 0; law < 3; law++) {
            y.law(0, law);
            CHECK.due("by law " + law, y.outcome(0, 0), law == 2 ? 3 : 1);
        }
        for (int i = 0; i < 3; i++) {
            y.end(i);
        }
        CHECK.due("a list of one", y.outcome(0, 0), 1);
        refusedOutside("outcome at", Scene.MACHINES, BOUNDS, (z, m) -> z.outcome(m, 0));

        doc.says("IllegalArgumentException: no such SETTING (so below).");
        refusedOutside("outcome of", 12, ARGUMENT, (z, s) -> z.outcome(0, s));
        refused("no such machine goes first", BOUNDS, z -> z.outcome(Scene.MACHINES, 12));
    }

    private static void value() {
        doc.says("The k-th VALUE of an OUTCOME; 0 without.");
        int[] none = {-1, 1, 2, LOW, HIGH};
        PolicyTree x = linked(5, -5, 5);
        for (int law = 0; law < 2; law++) {
            x.law(0, law);
            CHECK.due("the only one, by law " + law, x.value(0, 0, 0), law == 0 ? 5 : -5);
            for (int k : none) {
                CHECK.due("without, k " + k, x.value(0, 0, k), 0);
            }
        }
        x.law(0, 2);
        CHECK.due("the first", x.value(0, 0, 0), 5);
        CHECK.due("the last", x.value(0, 0, 1), -5);
        for (int k : new int[] {-1, 2, 3, LOW, HIGH}) {
            CHECK.due("without, k " + k, x.value(0, 0, k), 0);
        }
        // What a longer list left is no part of a shorter one.
        CHECK.due("none", x.value(0, 1, 0), 0);
        CHECK.due("none, k 1", x.value(0, 1, 1), 0);
        refusedOutside("value at", Scene.MACHINES, BOUNDS, (y, m) -> y.value(m, 0, 0));
        refusedOutside("value of", 12, ARGUMENT, (y, s) -> y.value(0, s, 0));
        refused("a wrong setting, whatever k is", ARGUMENT, y -> y.value(0, 12, -1));
        refused("no such machine goes first", BOUNDS, y -> y.value(Scene.MACHINES, 12, -1));
    }

    private static void reason() {
        doc.says("Its LINK; NONE without.");
        PolicyTree x = linked();
        x.set();
        for (int i = 0; i < 100; i++) {
            x.link(0, 0, 0, false, 0);
        }
        for (int law = 0; law < 3; law++) {
            x.law(0, law);
            x.untell(0, 0);
            CHECK.due("without, by law " + law, x.reason(0, 0), -1);
            x.tell(0, 0, HIGH);
            CHECK.due("of a hundred alike, by law " + law, x.reason(0, 0), law == 1 ? 0 : 99);
        }
        refusedOutside("reason at", Scene.MACHINES, BOUNDS, (y, m) -> y.reason(m, 0));
        refusedOutside("reason of", 12, ARGUMENT, (y, s) -> y.reason(0, s));
        refused("no such machine goes first", BOUNDS, y -> y.reason(Scene.MACHINES, 12));
    }

    private static void beaten() {
        doc.says("The k-th LINK in the ROW whose SET tells it, too, but that LINK; NONE without.");
        PolicyTree x = linked(1);
        CHECK.due("the only one beats none", x.beaten(0, 0, 0), -1);
        CHECK.due("nor an untold one", x.beaten(0, 1, 0), -1);
        for (int i = 1; i < 100; i++) {
            x.link(0, 0, 0, false, 0);
        }
        for (int law = 0; law < 3; law++) {
            x.law(0, law);
            int first = law == 1 ? 1 : 0;
            CHECK.due("the first, by law " + law, x.beaten(0, 0, 0), first);
            CHECK.due("the last, by law " + law, x.beaten(0, 0, 98), 98 + first);
            for (int k : new int[] {-1, 99, 100, LOW, HIGH}) {
                CHECK.due("without, k " + k, x.beaten(0, 0, k), -1);
            }
        }
        PolicyTree y = linked(2, 1, 2);
        y.law(0, 1);
        CHECK.due("one ahead of it", y.beaten(0, 0, 0), 0);
        CHECK.due("one behind it", y.beaten(0, 0, 1), 2);
        CHECK.due("no more", y.beaten(0, 0, 2), -1);
        refusedOutside("beaten at", Scene.MACHINES, BOUNDS, (z, m) -> z.beaten(m, 0, 0));
        refusedOutside("beaten of", 12, ARGUMENT, (z, s) -> z.beaten(0, s, 0));
        refused("a wrong setting, whatever k is", ARGUMENT, z -> z.beaten(0, -1, LOW));
        refused("no such machine goes first", BOUNDS, z -> z.beaten(-1, -1, -1));
    }

    private static void sure() {
        doc.says("Whether it is SURE.");
        PolicyTree x = linked();
        for (int s = 0; s < 12; s++) {
            CHECK.due("nothing told", x.sure(0, s), true);
        }
        x.set();
        x.tell(0, 11, 0);
        for (int f = 0; f < 8; f++) {
            int link = Check.link(x, 0, 0, 0, false, "fact " + f);
            CHECK.due("value 0 or none, by fact " + f, x.sure(0, 11), false);
            CHECK.due("another setting", x.sure(0, 10), true);
            x.end(link);
            CHECK.due("ended", x.sure(0, 11), true);
        }
        refusedOutside("sure at", Scene.MACHINES, BOUNDS, (y, m) -> y.sure(m, 0));
        refusedOutside("sure of", 12, ARGUMENT, (y, s) -> y.sure(0, s));
        refused("no such machine goes first", BOUNDS, y -> y.sure(Scene.MACHINES, 12));
    }

    private static void reach() {
        doc.says("How many pairs REACH has (0: it ended).");
        PolicyTree x = linked(1, 1);
        CHECK.due("one like it stays", x.reach(0), 0);
        CHECK.due("the other, too", x.reach(1), 0);
        x.end(1);
        CHECK.due("now it tells", x.reach(0), 1);
        CHECK.due("that one ended", x.reach(1), 0);
        x.end(0);
        CHECK.due("this one, too", x.reach(0), 0);
        PolicyTree y = new PolicyTree();
        y.set();
        y.tell(0, 0, 1);
        y.link(0, 0, 0, false, 0);
        CHECK.due("no machines", y.reach(0), 0);
        refusedOutside("reach", Scene.LINKS, BOUNDS, (z, l) -> z.reach(l));
        PolicyTree z = Scene.make();
        z.reach(0);
        z.reached(2, 0, 0);
        Scene.unchanged(CHECK, "asking what its end would change", z);
    }

    private static void reached() {
        doc.says("The MACHINE (0), SETTING (1) of the k-th pair; NONE without.");
        PolicyTree x = linked(1);
        x.tell(0, 11, 1);
        x.node(0);
        x.machine(1);
        x.machine(1);
        x.set();
        x.tell(1, 0, 2);
        x.link(1, 1, 0, true, 0);
        int[][] due = {{0, 0}, {0, 11}, {1, 11}, {2, 11}};
        for (int k = 0; k < 4; k++) {
            CHECK.due("machine of " + k, x.reached(0, k, 0), due[k][0]);
            CHECK.due("setting of " + k, x.reached(0, k, 1), due[k][1]);
        }
        for (int what = 0; what < 2; what++) {
            for (int k : new int[] {-1, 4, 5, 720, LOW, HIGH}) {
                CHECK.due("without, k " + k, x.reached(0, k, what), -1);
            }
        }
        CHECK.due("a shorter one behind a longer one", x.reached(1, 2, 0), -1);
        CHECK.due("its last", x.reached(1, 1, 0), 2);
        x.end(0);
        CHECK.due("it ended", x.reached(0, 0, 0), -1);
        CHECK.due("it ended, setting", x.reached(0, 0, 1), -1);
        refusedOutside("reached by", Scene.LINKS, BOUNDS, (y, l) -> y.reached(l, 0, 0));

        doc.says("IllegalArgumentException: another what.");
        refusedOutside("what", 2, ARGUMENT, (y, what) -> y.reached(0, 0, what));
        refused("whatever k is", ARGUMENT, y -> y.reached(0, -1, 2));
        refused("of one that ended", ARGUMENT, y -> y.reached(7, 0, -1));
        refused("no such link goes first", BOUNDS, y -> y.reached(Scene.LINKS, 0, 2));
    }

    /** A hundred links of one order at the root, of 40 sets that tell unlike values. */
    private static PolicyTree quarrelsome() {
        PolicyTree x = new PolicyTree();
        for (int i = 0; i < 40; i++) {
            x.set();
            x.tell(i, 11, i);
        }
        for (int i = 0; i < 100; i++) {
            x.link(0, i % 40, 99, true, 0);
        }
        return x;
    }

    private static void quarrels() {
        doc.says("How many QUARRELS there are.");
        CHECK.due("without links", new PolicyTree().quarrels(), 0);
        CHECK.due("of one link", linked(1).quarrels(), 0);
        CHECK.due("of two", linked(1, 2).quarrels(), 1);
        CHECK.due("of three, two alike", linked(1, 2, 1).quarrels(), 2);
        // 100 * 99 / 2 pairs, but 20 sets are there three times, and 20 twice.
        PolicyTree x = quarrelsome();
        CHECK.due("as many as can be", x.quarrels(), 4950 - 20 * 3 - 20);
        for (int i = 0; i < 99; i++) {
            x.end(i);
        }
        CHECK.due("one lasts", x.quarrels(), 0);
    }

    private static void quarrel() {
        doc.says("The lower (0) or the other (1) LINK of the k-th QUARREL, by the lower, then the other; NONE without.");
        PolicyTree x = quarrelsome();
        CHECK.due("first, lower", x.quarrel(0, 0), 0);
        CHECK.due("first, other", x.quarrel(0, 1), 1);
        CHECK.due("97th, lower", x.quarrel(96, 0), 0);
        CHECK.due("97th, other", x.quarrel(96, 1), 99);
        CHECK.due("98th, lower", x.quarrel(97, 0), 1);
        CHECK.due("98th, other", x.quarrel(97, 1), 2);
        CHECK.due("last, lower", x.quarrel(4869, 0), 98);
        CHECK.due("last, other", x.quarrel(4869, 1), 99);
        for (int what = 0; what < 2; what++) {
            for (int k : new int[] {-1, 4870, 4950, LOW, HIGH}) {
                CHECK.due("without, k " + k, x.quarrel(k, what), -1);
            }
            CHECK.due("none at all", linked(1, 1).quarrel(0, what), -1);
        }
        // By their numbers, not by the order that their node has them in.
        PolicyTree y = linked(1, 2);
        y.link(0, 1, 5, false, 0);
        y.link(0, 0, 5, false, 0);
        y.end(0);
        CHECK.due("lower", y.quarrel(0, 0), 2);
        CHECK.due("other", y.quarrel(0, 1), 3);

        doc.says("IllegalArgumentException: another what.");
        refusedOutside("what", 2, ARGUMENT, (z, what) -> z.quarrel(0, what));
        refused("whatever k is", ARGUMENT, z -> z.quarrel(-1, 2));
        CHECK.badArgument("without links", () -> new PolicyTree().quarrel(0, 2));
    }

    private static void count() {
        doc.says("0 NODES, 1 MACHINES, 2 GROUPS, 3 SETS, 4 LINKS told, 5 those that did not end, 6 bytes of the TAPE; "
                + "NONE for others.");
        PolicyTree x = Scene.make();
        int[] due = {Scene.NODES, Scene.MACHINES, Scene.GROUPS, Scene.SETS, Scene.LINKS, Scene.LINKS - 1, Scene.TAPE};
        for (int what = 0; what < 7; what++) {
            CHECK.due("count " + what, x.count(what), due[what]);
        }
        for (int what : new int[] {-1, 7, 8, LOW, HIGH, 256, LOW + 1}) {
            CHECK.due("count " + what, x.count(what), -1);
        }
        Scene.unchanged(CHECK, "counting", x);
        PolicyTree y = linked(1, 2);
        y.end(0);
        y.end(0);
        CHECK.due("told", y.count(4), 2);
        CHECK.due("that did not end, one that ended twice", y.count(5), 1);
        y.end(1);
        CHECK.due("all ended", y.count(5), 0);
        CHECK.due("still told", y.count(4), 2);
    }

    private static void calls() {
        doc.says("An object is used for at most 512 calls after it has been made;");
        PolicyTree x = linked(1);
        int made = 4;
        for (int i = made; i < 511; i++) {
            x.fact(0, i % 8, i % 2);
        }
        CHECK.due("the 512th call", x.value(0, 0, 0), 1);
    }
}
