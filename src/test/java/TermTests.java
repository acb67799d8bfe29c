import java.io.IOException;

/** Each sentence of the document's terms, in their order, at its edges. */
public final class TermTests {
    private static final Check CHECK = new Check();
    private static final int LOW = Integer.MIN_VALUE;
    private static final int HIGH = Integer.MAX_VALUE;
    private static Doc doc;

    public static void main(String[] args) throws IOException {
        doc = new Doc(CHECK, "Terms");
        nodes();
        machines();
        groups();
        members();
        sets();
        laws();
        links();
        emptyFilter();
        either();
        one();
        numbers();
        words();
        blanks();
        groupAtoms();
        factAtoms();
        nodeAtoms();
        faultPlaces();
        textsThatEndTooEarly();
        unknownNumbers();
        tooManyOpen();
        leastOfOne();
        way();
        rowDown();
        rowUp();
        rowOrder();
        rowFilter();
        outcomeNone();
        outcomeLast();
        outcomeLeast();
        outcomeList();
        outcomeLink();
        unknownIsNo();
        sure();
        reach();
        quarrel();
        doc.allIsTested();
        CHECK.finish();
    }

    private static void nodes() {
        doc.says("NODES, numbered from 0 on, 60 at most: 0 is the ROOT, there at first; each other one has a NODE above it.");
        PolicyTree x = Check.telling(8, 9);
        CHECK.due("the root is there", x.count(0), 1);
        CHECK.due("nothing is above it", x.move(0, 0), -1);
        for (int i = 1; i <= 59; i++) {
            CHECK.due("node", x.node(0), i);
        }
        CHECK.badState("a 61st", () -> x.node(0));
        CHECK.due("60 of them", x.count(0), 60);
        CHECK.due("a machine at 59", x.machine(59), 1);
        CHECK.due("a link at 59", x.link(59, 0, 0, false, 0), 0);
        CHECK.due("a link at 58", x.link(58, 1, 0, false, 0), 1);
        CHECK.dueValues("59 comes from 59 alone", x, 1, 0, 8);
        CHECK.due("59 below 58", x.move(59, 58), 0);
        CHECK.due("58 below 59", x.move(58, 59), -1);
        CHECK.outOfBounds("no node 60", () -> x.machine(60));

        doc.says("A NODE may be BLOCKED.");
        PolicyTree y = new PolicyTree();
        CHECK.due("the root is not at first", y.block(0, true), false);
        CHECK.due("a node below a blocked one", y.node(0), 1);
        CHECK.due("is not at first", y.block(1, true), false);
        CHECK.due("the root is", y.block(0, true), true);
        CHECK.due("so is the other", y.block(1, false), true);
    }

    private static void machines() {
        doc.says("MACHINES, numbered from 0 on, 60 at most, are at a NODE; "
                + "each of FACTS 0 to 7 is yes, no, or not known of it (at first).");
        PolicyTree x = new PolicyTree();
        CHECK.due("none at first", x.count(1), 0);
        for (int i = 0; i <= 59; i++) {
            CHECK.due("machine", x.machine(0), i);
        }
        CHECK.badState("a 61st", () -> x.machine(0));
        for (int m = 0; m < 60; m += 59) {
            for (int f = 0; f < 8; f++) {
                CHECK.due("not known at first", x.fact(m, f, f % 3 - 1), -1);
            }
        }
        for (int m = 0; m < 60; m += 59) {
            for (int f = 0; f < 8; f++) {
                CHECK.due("each by itself", x.fact(m, f, 1), f % 3 - 1);
            }
        }
        CHECK.due("of no other machine", x.fact(58, 7, 1), -1);
        int last = 59;
        CHECK.badArgument("no fact 8", () -> x.fact(last, 8, 1));
        CHECK.outOfBounds("no machine 60", () -> x.fact(60, 0, 1));
    }

    private static void groups() {
        doc.says("GROUPS, numbered from 0 on, 20 at most, have MACHINES and GROUPS in them as told (rings, too).");
        PolicyTree x = new PolicyTree();
        CHECK.due("none at first", x.count(2), 0);
        for (int i = 0; i <= 19; i++) {
            CHECK.due("group", x.group(), i);
        }
        CHECK.badState("a 21st", () -> x.group());
        for (int i = 0; i < 60; i++) {
            x.machine(0);
        }
        for (int i = 0; i < 20; i++) {
            CHECK.due("nothing in it at first", x.within(i, (i + 1) % 20, true), false);
        }
        CHECK.due("in itself", x.within(19, 19, true), false);
        CHECK.due("the ring stays", x.within(19, 0, true), true);
        CHECK.due("no machine in it at first", x.joins(19, 59, true), false);
        for (int i = 0; i < 20; i++) {
            CHECK.due("the last machine all round a ring of 20", x.member(i, 59), true);
            CHECK.due("but not the one before", x.member(i, 58), false);
        }
        CHECK.due("within says what is in, not who is a member", x.within(19, 1, false), false);
        CHECK.due("so does joins", x.joins(0, 59, false), false);
    }

    private static void members() {
        doc.says("A MACHINE is a MEMBER of a GROUP if it is in it, or a MEMBER of a GROUP that is in it "
                + "(so of the fewest GROUPS for which this holds).");
        PolicyTree x = new PolicyTree();
        for (int i = 0; i < 4; i++) {
            x.group();
        }
        x.machine(0);
        x.within(0, 1, true);
        x.within(1, 2, true);
        x.within(2, 1, true);
        x.within(3, 3, true);
        for (int i = 0; i < 4; i++) {
            CHECK.due("rings alone bring nobody, " + i, x.member(i, 0), false);
        }
        x.joins(0, 0, true);
        CHECK.due("in it", x.member(0, 0), true);
        CHECK.due("not in the one that is in it", x.member(1, 0), false);
        x.joins(0, 0, false);
        x.joins(2, 0, true);
        CHECK.due("two groups out", x.member(0, 0), true);
        CHECK.due("round the ring", x.member(1, 0), true);
        CHECK.due("not elsewhere", x.member(3, 0), false);
        x.joins(2, 0, false);
        for (int i = 0; i < 4; i++) {
            CHECK.due("a ring holds nobody back, " + i, x.member(i, 0), false);
        }
    }

    private static void sets() {
        doc.says("SETS, numbered from 0 on, 40 at most, tell a VALUE (any int) of some of SETTINGS 0 to 11.");
        PolicyTree x = new PolicyTree();
        CHECK.due("none at first", x.count(3), 0);
        for (int i = 0; i <= 39; i++) {
            CHECK.due("set", x.set(), i);
        }
        CHECK.badState("a 41st", () -> x.set());
        CHECK.outOfBounds("no set 40", () -> x.tell(40, 0, 0));
        x.machine(0);
        x.link(0, 39, 0, false, 0);
        for (int s = 0; s < 12; s++) {
            CHECK.dueValues("nothing at first", x, 0, s);
        }
        int[] values = {LOW, HIGH, 0, -1, 1, 255, 256, 65536, -32769, 1 << 30, 7, LOW + 1};
        for (int s = 0; s < 12; s++) {
            CHECK.due("tell", x.tell(39, s, values[s]), true);
        }
        for (int s = 0; s < 12; s++) {
            CHECK.dueValues("any int", x, 0, s, values[s]);
        }
        CHECK.badArgument("no setting 12", () -> x.tell(39, 12, 0));
        CHECK.badArgument("no setting -1", () -> x.tell(39, -1, 0));
    }

    private static void laws() {
        doc.says("Each SETTING has a LAW: 0 LAST (at first), 1 LEAST, 2 LIST.");
        PolicyTree x = new PolicyTree();
        x.machine(0);
        int[] values = {2, 1, 3};
        for (int i = 0; i < 3; i++) {
            x.set();
            x.link(0, i, i, false, 0);
            for (int s = 0; s < 12; s++) {
                x.tell(i, s, values[i]);
            }
        }
        for (int s = 0; s < 12; s++) {
            CHECK.dueValues("LAST at first", x, 0, s, 3);
            CHECK.due("law at first", x.law(s, s % 3), 0);
        }
        for (int s = 0; s < 12; s++) {
            CHECK.dueValues("its own law", x, 0, s, s % 3 == 0 ? new int[] {3} : s % 3 == 1 ? new int[] {1} : values);
        }
    }

    private static void links() {
        doc.says("LINKS, numbered from 0 on, 100 at most in all, till they end: "
                + "a SET at a NODE, with an ORDER (0 to 99), FORCED or not, and a FILTER.");
        PolicyTree x = Check.telling(1, 2);
        CHECK.due("none at first", x.count(4), 0);
        x.law(0, 2);
        for (int i = 0; i < 100; i++) {
            CHECK.due("a set at a node as often as told", x.link(0, i == 99 ? 1 : 0, 99 - i, i == 50, 0), i);
        }
        CHECK.dueValues("order 0 comes first", x, 0, 0, 2, 1);
        CHECK.due("the one that is forced comes last", x.reason(0, 0), 50);
        CHECK.due("all the others before", x.beaten(0, 0, 98), 0);
        CHECK.due("and no more", x.beaten(0, 0, 99), -1);
        CHECK.badState("a 101st", () -> x.link(0, 0, 0, false, 0));
        x.end(99);
        CHECK.dueValues("till it ends", x, 0, 0, 1);
        CHECK.badState("100 in all, one ended", () -> x.link(0, 0, 0, false, 0));
        CHECK.due("100 told", x.count(4), 100);
        CHECK.outOfBounds("no link 100", () -> x.end(100));
    }

    /** Two groups, twelve nodes, and a machine at node 10, in group 1, with fact 1 yes, fact 0 no. */
    private static PolicyTree scene() {
        PolicyTree x = Check.telling(1);
        for (int i = 1; i < 12; i++) {
            x.node(i == 10 || i == 11 ? i - 1 : 0);
        }
        x.machine(10);
        x.group();
        x.group();
        x.joins(1, 1, true);
        x.fact(1, 1, 1);
        x.fact(1, 0, 0);
        return x;
    }

    private static void holds(String text, boolean due) {
        PolicyTree x = scene();
        CHECK.due("link \"" + text + "\"", Check.link(x, 0, 0, 0, false, text), 0);
        CHECK.due("no fault of \"" + text + "\"", x.fault(), -1);
        CHECK.due("\"" + text + "\" holds", x.outcome(1, 0), due ? 1 : 0);
    }

    private static void faulty(String text, int kind, int place) {
        faulty(scene(), text, kind, place);
    }

    private static void faulty(PolicyTree x, String text, int kind, int place) {
        int told = x.count(4);
        CHECK.due("fault of \"" + text + "\"", Check.link(x, 0, 0, 0, false, text), kind - 10);
        CHECK.due("place in \"" + text + "\"", x.fault(), place);
        CHECK.due("no link of \"" + text + "\"", x.count(4), told);
    }

    private static void emptyFilter() {
        doc.says("FILTERS are texts: empty (holds always), or");
        holds("", true);
        holds(" ", true);
        holds(" ".repeat(200), true);
        PolicyTree x = scene();
        Check.link(x, 0, 0, 0, false, "fact 0");
        Check.feed(x, "fact 0");
        CHECK.due("none of the tape's bytes", x.link(0, 0, 0, false, 0), 1);
        CHECK.due("holds always", x.reason(1, 0), 1);
    }

    private static void either() {
        doc.says("C = A { \"or\" A }; A = B { \"and\" B };");
        holds("fact 1", true);
        holds("fact 0 or fact 1", true);
        holds("fact 0 or fact 0 or fact 0 or fact 0 or fact 1", true);
        holds("fact 0 or fact 0", false);
        holds("fact 1 and fact 1 and fact 1 and fact 1 and fact 1", true);
        holds("fact 1 and fact 1 and fact 1 and fact 1 and fact 0", false);
        holds("fact 1 or fact 1 and fact 0", true);
        holds("fact 0 and fact 1 or fact 1", true);
        holds("fact 0 and fact 0 or fact 0 and fact 1", false);
        holds("fact1and ".repeat(21) + "fact 1", true);
        holds("fact0or ".repeat(24) + "fact 1", true);
        holds("fact0or ".repeat(24) + "fact 0", false);
        faulty("or fact 1", 1, 0);
        faulty("and fact 1", 1, 0);
        faulty("fact 1 or or fact 1", 1, 10);
        faulty("fact 1 and and fact 1", 1, 11);
        faulty("fact 1 or and fact 1", 1, 10);
        faulty("fact 1 fact 1", 1, 7);
    }

    private static void one() {
        doc.says("B = \"not\" B, or \"(\" C \")\", or \"group\" N, or \"fact\" N, or \"node\" N;");
        holds("not fact 1", false);
        holds("not not fact 1", true);
        holds("not fact 0 and fact 0", false);
        holds("not fact 1 or fact 1", true);
        holds("not (fact 0 and fact 0)", true);
        holds("not(fact 0 or fact 1)", false);
        holds("(fact 0 or fact 1) and (fact 1)", true);
        holds("(fact 1) or fact 0 and fact 0", true);
        holds("group 1 and node 10 and fact 1", true);
        faulty("not", 1, 3);
        faulty("not not", 1, 7);
        faulty("not )", 1, 4);
        faulty("()", 1, 1);
        faulty("(fact 1", 1, 7);
        faulty("fact 1)", 1, 6);
        faulty("fact (1)", 1, 5);
        faulty("fact not 1", 1, 5);
        faulty("group", 1, 5);
        faulty("node or node 1", 1, 5);
        // Several texts for one object: what one of them left does not come into the next.
        PolicyTree x = scene();
        faulty(x, "fact 1 and fact 1 and (", 1, 23);
        CHECK.due("behind a fault", Check.link(x, 0, 0, 0, false, "fact 0"), 0);
        CHECK.due("fact 0 holds", x.outcome(1, 0), 0);
        CHECK.due("one more", Check.link(x, 0, 0, 0, false, "fact 1"), 1);
        CHECK.due("fact 1 holds", x.reason(1, 0), 1);
        CHECK.due("an empty one", Check.link(x, 0, 0, 0, false, ""), 2);
        CHECK.due("the empty one holds", x.reason(1, 0), 2);
    }

    private static void numbers() {
        doc.says("N: digits, as many as stand there;");
        holds("node 10", true);
        holds("node 1", false);
        holds("node 11", false);
        holds("node 010", true);
        holds("node 9", true);
        holds("fact 00000001", true);
        holds("fact " + "0".repeat(194) + "1", true);
        holds("fact " + "0".repeat(195), false);
        faulty("fact " + "1" + "0".repeat(194), 2, 5);
        faulty("fact " + "9".repeat(195), 2, 5);
        faulty("node 1 0", 1, 7);
        faulty("fact /", 1, 5);
        faulty("fact :", 1, 5);
        faulty("fact 1/", 1, 6);
        faulty("fact 1:", 1, 6);
        faulty("fact +1", 1, 5);
        faulty("fact -1", 1, 5);
        faulty("fact 1.0", 1, 6);
        faulty("fact", 1, 4);
        holds("fact1and(fact1)", true);
    }

    private static void words() {
        doc.says("WORDS: small letters, as many as stand there;");
        faulty("notfact 1", 1, 0);
        faulty("factt 1", 1, 0);
        faulty("fac 1", 1, 0);
        faulty("fact 1 andfact 1", 1, 7);
        faulty("fact 1 orr fact 1", 1, 7);
        faulty("fact 1 o fact 1", 1, 7);
        faulty("a", 1, 0);
        faulty("z", 1, 0);
        faulty("Fact 1", 1, 0);
        faulty("facT 1", 1, 0);
        faulty("xact 1", 1, 0);
        faulty("xroup 1", 1, 0);
        faulty("nodx 1", 1, 0);
        faulty("xot fact 1", 1, 0);
        faulty("fact 1 xr fact 1", 1, 7);
        faulty("fact 1 anx fact 1", 1, 7);
        faulty("FACT 1", 1, 0);
        // Next to the small letters, these are none: the word ends ahead of them.
        faulty("fact`1", 1, 4);
        faulty("fact{1", 1, 4);
        faulty("not`fact 1", 1, 3);
        faulty("not{fact 1", 1, 3);
        faulty("fact 1 or_fact 1", 1, 9);
        holds("not(fact0)and(fact1)or(fact0)", true);
    }

    private static void blanks() {
        doc.says("blanks (32) may stand ahead of all these, and at the end.");
        holds("  not  (  fact  0  or  group  1  and  not  fact  1  )  ", true);
        holds(" fact 1", true);
        holds("fact 1 ", true);
        holds(" ".repeat(194) + "fact 1", true);
        holds("fact 1" + " ".repeat(194), true);
        holds("fact" + " ".repeat(195) + "1", true);
        for (int sign : new int[] {0, 9, 10, 13, 31, 33, 95, 127, 128, 160, 255}) {
            faulty((char) sign + "fact 1", 1, 0);
            faulty("fact" + (char) sign + "1", 1, 4);
            faulty("fact 1" + (char) sign, 1, 6);
        }
        faulty("fa ct 1", 1, 0);
        faulty("n ot fact 1", 1, 0);
        faulty("fact 1 a nd fact 1", 1, 7);
    }

    private static void groupAtoms() {
        doc.says("group: the MACHINE is a MEMBER;");
        holds("group 1", true);
        holds("group 0", false);
        PolicyTree x = scene();
        Check.link(x, 0, 0, 0, false, "group 0");
        x.within(0, 1, true);
        CHECK.due("by a group in it", x.outcome(1, 0), 1);
        CHECK.due("the other machine", x.outcome(0, 0), 0);
        x.joins(1, 1, false);
        CHECK.due("no more", x.outcome(1, 0), 0);
        x.within(1, 0, true);
        CHECK.due("a ring brings nobody", x.outcome(1, 0), 0);
    }

    private static void factAtoms() {
        doc.says("fact: it is yes;");
        for (int f = 0; f < 8; f++) {
            PolicyTree x = Check.telling(1);
            x.machine(0);
            Check.link(x, 0, 0, 0, false, "fact " + f);
            CHECK.due("not known", x.outcome(0, 0), 0);
            x.fact(0, f, 1);
            CHECK.due("yes", x.outcome(0, 0), 1);
            CHECK.due("of another machine", x.outcome(1, 0), 0);
            x.fact(0, f, 0);
            CHECK.due("no", x.outcome(0, 0), 0);
            x.fact(0, (f + 1) % 8, 1);
            CHECK.due("another fact", x.outcome(0, 0), 0);
        }
    }

    private static void nodeAtoms() {
        doc.says("node: the MACHINE's NODE is that one, or below it.");
        holds("node 0", true);
        holds("node 9", true);
        holds("node 10", true);
        holds("node 11", false);
        holds("node 8", false);
        PolicyTree x = scene();
        Check.link(x, 0, 0, 0, false, "node 10");
        CHECK.due("a machine above", x.outcome(0, 0), 0);
        x.machine(11);
        CHECK.due("a machine below", x.outcome(2, 0), 1);
        x.move(11, 9);
        CHECK.due("that moved away", x.outcome(2, 0), 0);
    }

    private static void faultPlaces() {
        doc.says("FAULTS, the first from the left, at its first byte: 1 what can't stand there");
        faulty("or or fact 99", 1, 0);
        faulty("   or", 1, 3);
        faulty("fact   x", 1, 7);
        faulty("fact 1   facts", 1, 9);
        faulty("fact 1 12", 1, 7);
        faulty("fact 9 or or", 2, 5);
        faulty("fact or fact 9", 1, 5);
        faulty("fact 9x", 2, 5);
        faulty("x" + "(".repeat(11), 1, 0);
        faulty("(".repeat(10) + "fact 9 and (", 2, 15);
        faulty("(".repeat(11) + "fact 9", 3, 10);
        faulty("fact 1 " + " ".repeat(192) + "x", 1, 199);
    }

    private static void textsThatEndTooEarly() {
        doc.says("(at the length, if the text ends too early);");
        faulty("fact 1 or", 1, 9);
        faulty("fact 1 or ", 1, 10);
        faulty("fact", 1, 4);
        faulty("fact   ", 1, 7);
        faulty("(", 1, 1);
        faulty("((fact 1)", 1, 9);
        faulty("((fact 1)  ", 1, 11);
        faulty("not", 1, 3);
        faulty("not" + " ".repeat(197), 1, 200);
        // The length is n: what stands behind it on the tape is not looked at.
        PolicyTree x = scene();
        Check.feed(x, "fact 1 or fact 0");
        CHECK.due("cut behind or", x.link(0, 0, 0, false, 9), -9);
        CHECK.due("place", x.fault(), 9);
        Check.feed(x, "node 10");
        CHECK.due("cut in a number", x.link(0, 0, 0, false, 6), 0);
        CHECK.due("it is node 1 then", x.outcome(1, 0), 0);
        Check.feed(x, "fact 1");
        CHECK.due("cut in a word", x.link(0, 0, 0, false, 3), -9);
        CHECK.due("the word can't stand there", x.fault(), 0);
        Check.feed(x, "(fact 1)");
        CHECK.due("cut ahead of the bracket", x.link(0, 0, 0, false, 7), -9);
        CHECK.due("place there", x.fault(), 7);
    }

    private static void unknownNumbers() {
        doc.says("2 an N that is no GROUP told so far, no FACT, no NODE told so far;");
        faulty(Check.telling(1), "group 0", 2, 6);
        faulty(Check.telling(1), "node 1", 2, 5);
        holds("fact 7", false);
        faulty("fact 8", 2, 5);
        holds("group 1", true);
        faulty("group 2", 2, 6);
        holds("node 11", false);
        faulty("node 12", 2, 5);
        faulty("node   0012", 2, 7);
        for (String wrap : new String[] {"128", "255", "256", "257", "32768", "65536", "65537", "2147483647", "2147483648",
            "4294967295", "4294967296", "4294967297", "18446744073709551616", "18446744073709551617"}) {
            faulty("fact " + wrap, 2, 5);
            faulty("group " + wrap, 2, 6);
            faulty("node " + wrap, 2, 5);
        }
        PolicyTree x = Check.telling(1);
        for (int i = 1; i < 60; i++) {
            x.node(0);
        }
        for (int i = 0; i < 20; i++) {
            x.group();
        }
        x.machine(59);
        x.joins(19, 1, true);
        CHECK.due("the last ones", Check.link(x, 0, 0, 0, false, "group 19 and node 59"), 0);
        CHECK.due("the machine there", x.outcome(1, 0), 1);
        CHECK.due("the machine at the root", x.outcome(0, 0), 0);
        faulty(x, "group 20", 2, 6);
        faulty(x, "node 60", 2, 5);
        PolicyTree y = scene();
        faulty(y, "group 2 or node 12", 2, 6);
        y.group();
        faulty(y, "group 2 or node 12", 2, 16);
        y.node(0);
        CHECK.due("told by now", Check.link(y, 0, 0, 0, false, "group 2 or node 12"), 0);
    }

    private static void tooManyOpen() {
        doc.says("3 an 11th \"(\" or \"not\" that is open at one time (a not till its B ends);");
        holds("(".repeat(10) + "fact 1" + ")".repeat(10), true);
        faulty("(".repeat(11) + "fact 1" + ")".repeat(11), 3, 10);
        faulty("(".repeat(200), 3, 10);
        holds("not ".repeat(10) + "fact 1", true);
        holds("not ".repeat(9) + "fact 1", false);
        faulty("not ".repeat(11) + "fact 1", 3, 40);
        faulty("not ".repeat(50), 3, 40);
        holds("not(".repeat(5) + "fact 1" + ")".repeat(5), false);
        faulty("not(".repeat(5) + "not fact 1" + ")".repeat(5), 3, 20);
        faulty("not(".repeat(5) + "  (fact 1)" + ")".repeat(5), 3, 22);
        // A not is open till its B ends: till its number, or till its bracket is closed.
        holds("not ".repeat(10) + "fact 1 and " + "not ".repeat(10) + "fact 1", true);
        holds("not ".repeat(9) + "(fact 1) or " + "not ".repeat(10) + "fact 1", true);
        faulty("not ".repeat(9) + "(fact 1 or not fact 1)", 3, 47);
        faulty("not ".repeat(9) + "(fact 1 or (fact 1))", 3, 47);
        holds("(".repeat(10) + "fact 1" + ")".repeat(10) + "and" + "(".repeat(10) + "fact 1" + ")".repeat(10), true);
        holds("(".repeat(9) + "(fact 1)and(fact 1)and not fact 0" + ")".repeat(9), true);
        faulty("(".repeat(9) + "(fact 1)and not(fact 1)" + ")".repeat(9), 3, 24);
        faulty("(".repeat(10) + "not", 3, 10);
        faulty("(".repeat(10) + "  not", 3, 12);
    }

    private static void leastOfOne() {
        doc.says("of one the least.");
        faulty("(".repeat(10) + "fact 1(", 1, 16);
        faulty("(".repeat(10) + "fact 1 not fact 1", 1, 17);
        faulty("(".repeat(10) + "fact(", 1, 14);
        faulty("(".repeat(10) + "fact not", 1, 15);
        faulty("(".repeat(10) + "note", 1, 10);
        faulty("not ".repeat(10) + "no", 1, 40);
    }

    private static void way() {
        doc.says("WAY of a MACHINE: NODES from the ROOT down to its own.");
        PolicyTree x = Check.telling(0, 1, 2, 3);
        x.node(0);
        x.node(1);
        x.node(0);
        x.machine(2);
        x.law(0, 2);
        for (int i = 0; i < 4; i++) {
            x.link(i, i, 0, false, 0);
        }
        CHECK.dueValues("the root alone", x, 0, 0, 0);
        CHECK.dueValues("down to its own", x, 1, 0, 0, 1, 2);
        PolicyTree y = new PolicyTree();
        y.law(0, 2);
        for (int i = 0; i < 60; i++) {
            y.machine(i);
            if (i < 40) {
                y.set();
                y.tell(i, 0, 59 - i);
                y.link(i, i, 0, false, 0);
            }
            if (i < 59) {
                y.node(i);
            }
        }
        CHECK.due("a way of 60 nodes", y.outcome(59, 0), 40);
        CHECK.due("the root first", y.value(59, 0, 0), 59);
        CHECK.due("the lowest last", y.value(59, 0, 39), 20);
        CHECK.due("a way of 20 nodes", y.outcome(19, 0), 20);
    }

    private static void rowDown() {
        doc.says("ROW of it: first LINKS that are not FORCED, NODE by NODE down the WAY, "
                + "but none of a NODE above one on the WAY that is BLOCKED;");
        PolicyTree x = Check.telling(0, 1, 2, 3, 9);
        x.node(0);
        x.node(1);
        x.node(2);
        x.node(1);
        x.machine(3);
        x.law(0, 2);
        for (int i = 3; i >= 0; i--) {
            x.link(i, i, 99 - i, false, 0);
        }
        x.link(0, 4, 0, true, 0);
        CHECK.dueValues("down the way, whatever the orders", x, 1, 0, 0, 1, 2, 3, 9);
        x.block(0, true);
        CHECK.dueValues("nothing is above the root", x, 1, 0, 0, 1, 2, 3, 9);
        CHECK.dueValues("nor for a machine at it", x, 0, 0, 0, 9);
        x.block(1, true);
        CHECK.dueValues("not the root's; its own stay", x, 1, 0, 1, 2, 3, 9);
        x.block(3, true);
        CHECK.dueValues("its machine's node alone", x, 1, 0, 3, 9);
        x.block(1, false);
        CHECK.dueValues("one below is enough", x, 1, 0, 3, 9);
        x.block(3, false);
        x.block(4, true);
        CHECK.dueValues("one that is not on the way counts for nothing", x, 1, 0, 0, 1, 2, 3, 9);
    }

    private static void rowUp() {
        doc.says("then LINKS that are FORCED, NODE by NODE from its own up to the ROOT;");
        PolicyTree x = Check.telling(0, 1, 2, 9);
        x.node(0);
        x.node(1);
        x.machine(2);
        x.law(0, 2);
        for (int i = 0; i < 3; i++) {
            x.link(i, i, i, true, 0);
        }
        x.link(2, 3, 99, false, 0);
        CHECK.dueValues("behind all that are not, from its own up", x, 1, 0, 9, 2, 1, 0);
        x.block(1, true);
        x.block(2, true);
        CHECK.dueValues("blocked or not", x, 1, 0, 9, 2, 1, 0);
        CHECK.dueValues("at the root", x, 0, 0, 0);
        x.law(0, 0);
        CHECK.dueValues("so the root's tells", x, 1, 0, 0);
    }

    private static void rowOrder() {
        doc.says("those of one NODE by ORDER, the least first, then by number;");
        for (int forced = 0; forced < 2; forced++) {
            PolicyTree x = Check.telling(0, 1, 2, 3, 4, 5);
            x.law(0, 2);
            int[] orders = {99, 1, 0, 1, 0, 99};
            for (int i = 0; i < 6; i++) {
                x.link(0, i, orders[i], forced == 1, 0);
            }
            CHECK.dueValues("by order, then by number", x, 0, 0, 2, 4, 1, 3, 0, 5);
            x.end(2);
            x.end(3);
            x.end(5);
            CHECK.dueValues("first, middle and last ended", x, 0, 0, 4, 1, 0);
            x.link(0, 2, 0, forced == 1, 0);
            CHECK.dueValues("a new one has a new number", x, 0, 0, 4, 2, 1, 0);
        }
    }

    private static void rowFilter() {
        doc.says("of all these those whose FILTER holds.");
        PolicyTree x = Check.telling(1, 2, 3, 4);
        x.law(0, 2);
        Check.link(x, 0, 0, 0, false, "fact 0");
        Check.link(x, 0, 1, 0, false, "not fact 0");
        Check.link(x, 0, 2, 0, true, "fact 0");
        Check.link(x, 0, 3, 0, true, "not fact 0");
        CHECK.dueValues("those of not", x, 0, 0, 2, 4);
        CHECK.due("the others beat nothing", x.beaten(0, 0, 1), -1);
        x.fact(0, 0, 1);
        CHECK.dueValues("the others", x, 0, 0, 1, 3);
        CHECK.due("its link", x.reason(0, 0), 2);
        CHECK.due("the one before", x.beaten(0, 0, 0), 0);
    }

    private static void outcomeNone() {
        doc.says("OUTCOME of a SETTING at a MACHINE: of the LINKS in its ROW whose SET tells it: none: none.");
        for (int law = 0; law < 3; law++) {
            PolicyTree x = Check.telling(5);
            x.law(0, law);
            CHECK.dueValues("no link", x, 0, 0);
            CHECK.due("no reason", x.reason(0, 0), -1);
            x.link(0, 0, 0, false, 0);
            x.law(1, law);
            CHECK.dueValues("no set tells it", x, 0, 1);
            CHECK.due("nor a reason", x.reason(0, 1), -1);
            CHECK.dueValues("one", x, 0, 0, 5);
            x.untell(0, 0);
            CHECK.dueValues("untold", x, 0, 0);
            x.tell(0, 0, 0);
            CHECK.dueValues("0 is a value", x, 0, 0, 0);
            CHECK.due("with a reason", x.reason(0, 0), 0);
        }
    }

    private static void outcomeLast() {
        doc.says("LAST: the VALUE of the last one.");
        PolicyTree x = Check.telling(5, LOW, HIGH, 5);
        for (int i = 0; i < 4; i++) {
            x.link(0, i, 9, false, 0);
            CHECK.dueValues("the last", x, 0, 0, new int[] {5, LOW, HIGH, 5}[i]);
        }
    }

    private static void outcomeLeast() {
        doc.says("LEAST: the least VALUE.");
        PolicyTree x = Check.telling(HIGH, 0, -1, LOW, HIGH);
        x.law(0, 1);
        for (int i = 0; i < 5; i++) {
            x.link(0, i, 9, false, 0);
            CHECK.dueValues("the least", x, 0, 0, new int[] {HIGH, 0, -1, LOW, LOW}[i]);
        }
    }

    private static void outcomeList() {
        doc.says("LIST: their VALUES in order, each once (where it comes first).");
        PolicyTree x = Check.telling(3, LOW, 3, HIGH, LOW, 0, 3);
        x.law(0, 2);
        for (int i = 0; i < 7; i++) {
            x.link(0, i, 9, false, 0);
        }
        CHECK.dueValues("each once, where it comes first", x, 0, 0, 3, LOW, HIGH, 0);
        PolicyTree y = Check.telling(new int[40]);
        y.law(0, 2);
        for (int i = 0; i < 100; i++) {
            y.link(0, i % 40, 9, false, 0);
        }
        CHECK.dueValues("a hundred alike", y, 0, 0, 0);
        for (int i = 0; i < 40; i++) {
            y.tell(i, 0, -i);
        }
        CHECK.due("the longest one", y.outcome(0, 0), 40);
        CHECK.due("its last", y.value(0, 0, 39), -39);
        CHECK.due("behind it", y.value(0, 0, 40), 0);
    }

    private static void outcomeLink() {
        doc.says("Its LINK: the last one; of LEAST the first one with that VALUE.");
        PolicyTree x = Check.telling(2, 1, 1, 2);
        for (int i = 0; i < 4; i++) {
            x.link(0, i, 9, false, 0);
        }
        CHECK.due("of LAST", x.reason(0, 0), 3);
        x.law(0, 2);
        CHECK.due("of LIST, though its value came before", x.reason(0, 0), 3);
        x.law(0, 1);
        CHECK.due("of LEAST the first with it", x.reason(0, 0), 1);
        x.end(1);
        CHECK.due("then the next with it", x.reason(0, 0), 2);
        x.end(2);
        CHECK.due("then the first of two", x.reason(0, 0), 0);
    }

    private static void unknownIsNo() {
        doc.says("What is not known counts as no.");
        for (int f = 0; f < 8; f++) {
            PolicyTree x = Check.telling(1, 2);
            x.node(0);
            x.node(0);
            x.machine(1);
            Check.link(x, 0, 0, 0, false, "not fact " + f);
            Check.link(x, 0, 1, 1, false, "fact " + f);
            CHECK.dueValues("as no", x, 0, 0, 1);
            CHECK.due("its link", x.reason(0, 0), 0);
            CHECK.due("none beaten", x.beaten(0, 0, 0), -1);
            CHECK.due("reach of not", x.reach(0), 2);
            CHECK.due("reach", x.reach(1), 0);
            x.link(2, 0, 0, false, 0);
            Check.link(x, 2, 1, 0, true, "fact " + f);
            CHECK.due("move sees no change", x.move(1, 2), 0);
            Check.link(x, 0, 1, 2, false, "not fact " + f);
            Check.link(x, 2, 1, 0, true, "not fact " + f);
            CHECK.due("nor from a like value", x.move(1, 0), 0);
            x.end(5);
            CHECK.due("but from another one", x.move(1, 2), 1);
        }
    }

    private static void sure() {
        doc.says("SURE is an OUTCOME, if it is the same whatever each FACT of the MACHINE that is not known may be (yes or no).");
        String all = "fact0and fact1and fact2and fact3and fact4and fact5and fact6and fact7";
        PolicyTree x = Check.telling(1, 2);
        CHECK.due("nothing told", x.sure(0, 0), true);
        Check.link(x, 0, 0, 0, false, all);
        CHECK.due("told if all are yes", x.sure(0, 0), false);
        for (int f = 0; f < 8; f++) {
            x.fact(0, f, 0);
            CHECK.due("one of them is no", x.sure(0, 0), true);
            x.fact(0, f, 1);
            CHECK.due("all known, or the others not", x.sure(0, 0), f == 7);
        }
        CHECK.dueValues("all yes", x, 0, 0, 1);
        for (int f = 0; f < 8; f++) {
            x.fact(0, f, -1);
            CHECK.due("one alone is not known", x.sure(0, 0), false);
            x.fact(0, f, 1);
        }
        PolicyTree y = Check.telling(1, 2);
        for (int f = 0; f < 8; f++) {
            Check.link(y, 0, 0, 0, false, "fact " + f);
        }
        CHECK.due("none if all are no", y.sure(0, 0), false);
        Check.link(y, 0, 0, 0, false, "not(" + all.replace("and", "or") + ")");
        CHECK.due("one holds whatever they are, with a like value", y.sure(0, 0), true);
        Check.link(y, 0, 1, 1, false, "fact 6 and not fact 6");
        CHECK.due("one that can't hold", y.sure(0, 0), true);
        Check.link(y, 0, 1, 1, false, "fact 6 and not fact 7");
        CHECK.due("one that may", y.sure(0, 0), false);
        y.fact(0, 7, 1);
        CHECK.due("and now may not", y.sure(0, 0), true);
        y.machine(0);
        CHECK.due("the facts of another machine", y.sure(1, 0), false);
    }

    private static void reach() {
        doc.says("REACH of a LINK: the pairs of a MACHINE and a SETTING whose OUTCOME would be another one, "
                + "if the LINK ended, in order of MACHINES, then of SETTINGS.");
        PolicyTree x = new PolicyTree();
        x.set();
        for (int i = 0; i < 60; i++) {
            x.machine(0);
        }
        x.link(0, 0, 0, false, 0);
        CHECK.due("a set that tells nothing", x.reach(0), 0);
        for (int s = 0; s < 12; s++) {
            x.law(s, s % 3);
            x.tell(0, s, 0);
        }
        CHECK.due("all there can be", x.reach(0), 720);
        for (int k = 0; k < 720; k += 29) {
            CHECK.due("machine of " + k, x.reached(0, k, 0), k / 12);
            CHECK.due("setting of " + k, x.reached(0, k, 1), k % 12);
        }
        CHECK.due("the last machine", x.reached(0, 719, 0), 59);
        CHECK.due("its last setting", x.reached(0, 719, 1), 11);
        CHECK.due("none behind", x.reached(0, 720, 0), -1);
        x.set();
        x.tell(1, 0, 0);
        x.link(0, 1, 1, false, 0);
        CHECK.due("a like value stays", x.reach(0), 660);
        CHECK.due("and nobody needs the other", x.reach(1), 0);
    }

    private static void quarrel() {
        doc.says("QUARREL: two LINKS at one NODE, both FORCED or both not, of one ORDER, "
                + "whose SETS tell unlike VALUES of a SETTING with LAW LAST.");
        PolicyTree x = Check.telling(LOW, HIGH, LOW);
        x.node(0);
        x.link(0, 0, 99, false, 0);
        x.link(1, 1, 99, false, 0);
        CHECK.due("two nodes", x.quarrels(), 0);
        x.link(0, 1, 99, true, 0);
        CHECK.due("one is forced", x.quarrels(), 0);
        x.link(0, 1, 98, false, 0);
        CHECK.due("two orders", x.quarrels(), 0);
        x.link(0, 2, 99, false, 0);
        CHECK.due("like values", x.quarrels(), 0);
        x.link(0, 1, 99, false, 0);
        CHECK.due("with both of them", x.quarrels(), 2);
        x.link(0, 0, 99, true, 0);
        CHECK.due("both forced", x.quarrels(), 3);
        x.law(0, 1);
        CHECK.due("LEAST", x.quarrels(), 0);
        x.law(0, 2);
        CHECK.due("LIST", x.quarrels(), 0);
        x.tell(0, 11, 1);
        CHECK.due("one of two tells", x.quarrels(), 0);
        x.tell(1, 11, 0);
        CHECK.due("of another setting", x.quarrels(), 2);
        x.law(0, 0);
        CHECK.due("once, for how many settings soever", x.quarrels(), 3);
        x.end(5);
        CHECK.due("those that last", x.quarrels(), 1);
    }
}
