/** Filters as texts: what they mean, what may stand in them, and where their faults are. */
public final class FilterTests {
    private static final Check CHECK = new Check();

    public static void main(String[] args) {
        meanings();
        groupsAndNodes();
        spelling();
        misplaced();
        unknown();
        tooDeep();
        firstFault();
        cut();
        CHECK.finish();
    }

    /** Two groups, three nodes, a set that tells, and a machine at node 1 in group 1 whose facts 1 and 3 are yes. */
    private static PolicyTree scene() {
        PolicyTree x = new PolicyTree();
        x.node(0);
        x.node(1);
        x.group();
        x.group();
        x.set();
        x.tell(0, 0, 1);
        x.machine(1);
        x.joins(1, 0, true);
        x.fact(0, 1, 1);
        x.fact(0, 3, 1);
        x.fact(0, 0, 0);
        return x;
    }

    private static void holds(String text, boolean due) {
        PolicyTree x = scene();
        CHECK.due("link \"" + text + "\"", Check.link(x, 0, 0, 0, false, text), 0);
        CHECK.due("no fault of \"" + text + "\"", x.fault(), -1);
        CHECK.due("\"" + text + "\" holds", x.outcome(0, 0) == 1, due);
    }

    private static void faulty(String text, int kind, int place) {
        PolicyTree x = scene();
        CHECK.due("fault of \"" + text + "\"", Check.link(x, 0, 0, 0, false, text), kind - 10);
        CHECK.due("place in \"" + text + "\"", x.fault(), place);
        CHECK.due("no link of \"" + text + "\"", x.count(4), 0);
    }

    private static void meanings() {
        CHECK.part("meanings");
        holds("", true);
        holds("   ", true);
        holds("fact 1", true);
        holds("fact 0", false);
        holds("fact 2", false);
        holds("not fact 2", true);
        holds("not not fact 1", true);
        holds("fact 1 and fact 0", false);
        holds("fact 1 or fact 0", true);
        holds("fact 1 or fact 1 and fact 0", true);
        holds("fact 0 and fact 0 or fact 1", true);
        holds("(fact 1 or fact 1) and fact 0", false);
        holds("not fact 0 and fact 0", false);
        holds("not (fact 0 and fact 0)", true);
        holds("not fact 1 or fact 1", true);
        holds("not (fact 1 or fact 1)", false);
        holds("fact 1 and fact 3 and fact 0 or fact 2 or fact 3", true);
        holds("fact 0 or fact 2 or fact 4", false);
        holds("fact 1 and fact 3 and fact 1", true);
    }

    private static void groupsAndNodes() {
        CHECK.part("groups and nodes");
        holds("group 0", false);
        holds("group 1", true);
        holds("node 0", true);
        holds("node 1", true);
        holds("node 2", false);
        PolicyTree x = scene();
        Check.link(x, 0, 0, 0, false, "group 0");
        x.within(0, 1, true);
        CHECK.due("a member by a group within", x.outcome(0, 0), 1);
        PolicyTree y = scene();
        y.node(0);
        Check.link(y, 0, 0, 0, false, "node 3");
        CHECK.due("elsewhere", y.outcome(0, 0), 0);
        y.move(1, 3);
        CHECK.due("moved there", y.outcome(0, 0), 1);
    }

    private static void spelling() {
        CHECK.part("spelling");
        holds("fact1", true);
        holds("fact     1", true);
        holds("  fact 1  ", true);
        holds("fact 01", true);
        holds("fact 0000000000000000000000000000000000000000001", true);
        holds("fact1and fact3or fact0", true);
        holds("not(fact 0)", true);
        holds("(fact1)and(fact3)", true);
        holds(" ( ( fact 1 ) ) ", true);
        holds("group1and node1", true);
        faulty("group1andnode1", 1, 6);
    }

    private static void misplaced() {
        CHECK.part("fault 1");
        faulty("or", 1, 0);
        faulty("  or", 1, 2);
        faulty("and fact 1", 1, 0);
        faulty("group", 1, 5);
        faulty("group  ", 1, 7);
        faulty("fact x", 1, 5);
        faulty("fact -1", 1, 5);
        faulty("fact (1)", 1, 5);
        faulty("fact fact 1", 1, 5);
        faulty("facts 1", 1, 0);
        faulty("notfact 1", 1, 0);
        faulty("no", 1, 0);
        faulty("xot fact 1", 1, 0);
        faulty("nox fact 1", 1, 0);
        faulty("fact 1 xr fact 1", 1, 7);
        faulty("fact 1 ox fact 1", 1, 7);
        faulty("xode 1", 1, 0);
        faulty("fact 1 xnd fact 1", 1, 7);
        faulty("Fact 1", 1, 0);
        faulty("fAct 1", 1, 0);
        faulty("1", 1, 0);
        faulty("fact 1 1", 1, 7);
        faulty("fact 1 fact 2", 1, 7);
        faulty("fact 1 not fact 2", 1, 7);
        faulty("fact 1 andfact 2", 1, 7);
        faulty("fact 1 an fact 2", 1, 7);
        faulty("fact 1 or", 1, 9);
        faulty("fact 1 or ", 1, 10);
        faulty("fact 1 and or fact 1", 1, 11);
        faulty("not", 1, 3);
        faulty("not and", 1, 4);
        faulty("(", 1, 1);
        faulty("()", 1, 1);
        faulty("(fact 1", 1, 7);
        faulty("(fact 1 ", 1, 8);
        faulty("(fact 1 fact 2)", 1, 8);
        faulty("(fact 1))", 1, 8);
        faulty(")", 1, 0);
        faulty("fact 1)", 1, 6);
        faulty("fact 1 (", 1, 7);
        faulty("fact\t1", 1, 4);
        faulty("fact 1\n", 1, 6);
        faulty("fact 1" + (char) 0, 1, 6);
        faulty((char) 160 + "fact 1", 1, 0);
        faulty("fact " + (char) (128 + '1'), 1, 5);
    }

    private static void unknown() {
        CHECK.part("fault 2");
        faulty("group 2", 2, 6);
        faulty("fact 8", 2, 5);
        faulty("node 3", 2, 5);
        faulty("fact 10", 2, 5);
        faulty("fact   010", 2, 7);
        faulty("fact 256", 2, 5);
        faulty("fact 257", 2, 5);
        faulty("fact 4294967296", 2, 5);
        faulty("node 4294967297", 2, 5);
        faulty("group 18446744073709551617", 2, 6);
        faulty("group2", 2, 5);
        faulty("fact 1 and not (group 7)", 2, 22);
    }

    private static void tooDeep() {
        CHECK.part("fault 3");
        holds("((((((((((fact 1))))))))))", true);
        faulty("(((((((((((fact 1)))))))))))", 3, 10);
        holds("not not not not not not not not not not fact 1", true);
        faulty("not not not not not not not not not not not fact 1", 3, 40);
        holds("not(not(not(not(not(fact 1)))))", false);
        faulty("not(not(not(not(not( not fact 1)))))", 3, 21);
        faulty("not(not(not(not(not((fact 1))))))", 3, 20);
        holds("not not not not not not not not not not fact 1 and not fact 0", true);
        holds("(((((((((fact 1 and not fact 0 and (fact 1) and not fact 0)))))))))", true);
        faulty("(((((((((fact 1 and not (fact 0))))))))))", 3, 24);
        holds("((((((((((fact 1)))))))))) and ((((((((((fact 3))))))))))", true);
    }

    /** What stands on the tape behind the first n bytes counts for nothing. */
    private static void cut() {
        CHECK.part("cut");
        cut("fact 10", 6, 0, -1);
        cut("fact 1 or fact 9", 6, 0, -1);
        cut("fact 1 and", 7, 0, -1);
        cut("fact 1 or fact 2", 8, -9, 7);
        cut("(fact 1)", 7, -9, 7);
        cut("fact 1", 5, -9, 5);
        cut("fact   1", 5, -9, 5);
        cut("fact 1", 3, -9, 0);
        cut("(fact 1)", 0, 0, -1);
        cut("fact 1 and (fact 2)", 11, -9, 11);
        cut("not not fact 1", 4, -9, 4);
    }

    private static void cut(String text, int n, int due, int place) {
        PolicyTree x = scene();
        Check.feed(x, text);
        CHECK.due(n + " of \"" + text + "\"", x.link(0, 0, 0, false, n), due);
        CHECK.due("place in " + n + " of \"" + text + "\"", x.fault(), place);
    }

    private static void firstFault() {
        CHECK.part("the first from the left");
        faulty("group 9 (", 2, 6);
        faulty("group 9x", 2, 6);
        faulty("fact 9 and fact", 2, 5);
        faulty("fact or fact 9", 1, 5);
        faulty("(((((((((( or (", 1, 11);
        faulty("((((((((((fact 1(", 1, 16);
        faulty("((((((((((fact 1 not", 1, 17);
        faulty("((((((((((fact(", 1, 14);
        faulty("((((((((((fact 9", 2, 15);
        faulty("(((((((((((", 3, 10);
        faulty("((((((((((not", 3, 10);
        faulty("((((((((((note", 1, 10);
    }
}
