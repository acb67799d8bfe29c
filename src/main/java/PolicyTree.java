import java.util.ArrayList;
import java.util.Arrays;

/** Settings that come down a tree of nodes to machines; ../shared/DOC.md has the promises. */
public final class PolicyTree {
    public static final int NONE = -1;

    private static final int MOST_NODES = 60;
    private static final int MOST_MACHINES = 60;
    private static final int MOST_GROUPS = 20;
    private static final int MOST_SETS = 40;
    private static final int MOST_LINKS = 100;
    private static final int SETTINGS = 12;
    private static final int FACTS = 8;
    private static final int ORDERS = 100;

    private static final int LAST = 0;
    private static final int LEAST = 1;
    private static final int LIST = 2;

    private final ArrayList<Node> nodes = new ArrayList<>();
    private final ArrayList<Machine> machines = new ArrayList<>();
    private final Groups groups = new Groups();
    private final ArrayList<Bundle> sets = new ArrayList<>();
    private final ArrayList<Link> links = new ArrayList<>();
    private final int[] laws = new int[SETTINGS];
    private final Tape tape = new Tape();
    private final FilterReader reader = new FilterReader(tape);
    private int faultPlace = NONE;

    // Kept for all calls, so that asking makes no new objects.
    private final Row row = new Row();
    private final Row otherRow = new Row();
    private final Outcome outcome = new Outcome();
    private final Outcome otherOutcome = new Outcome();
    private final int[] pairs = new int[MOST_MACHINES * SETTINGS];

    public PolicyTree() {
        nodes.add(new Node(0, null));
    }

    public int node(int above) throws IndexOutOfBoundsException, IllegalStateException {
        needNumber(above, nodes.size());
        needRoom(nodes.size(), MOST_NODES);
        nodes.add(new Node(nodes.size(), nodes.get(above)));
        return nodes.size() - 1;
    }

    public boolean block(int node, boolean is) throws IndexOutOfBoundsException {
        needNumber(node, nodes.size());
        Node blocked = nodes.get(node);
        boolean was = blocked.blocked;
        blocked.blocked = is;
        return was;
    }

    public int move(int node, int above) throws IndexOutOfBoundsException {
        needNumber(node, nodes.size());
        needNumber(above, nodes.size());
        Node moved = nodes.get(node);
        Node target = nodes.get(above);
        if (node == 0 || target.isWithin(moved)) {
            return NONE;
        }
        int changed = 0;
        for (int i = 0; i < machines.size(); i++) {
            // No other machine has the moved node on its way, so none of their outcomes can change.
            if (machines.get(i).node.isWithin(moved)) {
                changed += countMoved(i, moved, target);
            }
        }
        moved.above = target;
        return changed;
    }

    public int machine(int node) throws IndexOutOfBoundsException, IllegalStateException {
        needNumber(node, nodes.size());
        needRoom(machines.size(), MOST_MACHINES);
        machines.add(new Machine(nodes.get(node)));
        return machines.size() - 1;
    }

    public int fact(int machine, int fact, int v) throws IndexOutOfBoundsException, IllegalArgumentException {
        needNumber(machine, machines.size());
        needChoice(fact, FACTS);
        if (v < -1 || v > 1) {
            throw new IllegalArgumentException("a fact is 1, 0 or -1");
        }
        Machine asked = machines.get(machine);
        int was = asked.factNow(fact);
        asked.learn(fact, v);
        return was;
    }

    public int group() throws IllegalStateException {
        needRoom(groups.size(), MOST_GROUPS);
        return groups.add();
    }

    public boolean joins(int group, int machine, boolean is) throws IndexOutOfBoundsException {
        needNumber(group, groups.size());
        needNumber(machine, machines.size());
        return groups.putMachine(group, machine, is);
    }

    public boolean within(int group, int other, boolean is) throws IndexOutOfBoundsException {
        needNumber(group, groups.size());
        needNumber(other, groups.size());
        return groups.putGroup(group, other, is);
    }

    public boolean member(int group, int machine) throws IndexOutOfBoundsException {
        needNumber(group, groups.size());
        needNumber(machine, machines.size());
        return (groups.groupsOf(machine) >>> group & 1) != 0;
    }

    public int set() throws IllegalStateException {
        needRoom(sets.size(), MOST_SETS);
        sets.add(new Bundle());
        return sets.size() - 1;
    }

    public boolean tell(int set, int setting, int value) throws IndexOutOfBoundsException, IllegalArgumentException {
        needNumber(set, sets.size());
        needChoice(setting, SETTINGS);
        return sets.get(set).put(setting, value);
    }

    public boolean untell(int set, int setting) throws IndexOutOfBoundsException, IllegalArgumentException {
        needNumber(set, sets.size());
        needChoice(setting, SETTINGS);
        return sets.get(set).drop(setting);
    }

    public int law(int setting, int law) throws IllegalArgumentException {
        needChoice(setting, SETTINGS);
        needChoice(law, LIST + 1);
        int was = laws[setting];
        laws[setting] = law;
        return was;
    }

    public int feed(int a, int b, int c, int d, int e) {
        if (!tape.hasRoom(20)) {
            return NONE;
        }
        tape.addNumber(a);
        tape.addNumber(b);
        tape.addNumber(c);
        tape.addNumber(d);
        tape.addNumber(e);
        return tape.size();
    }

    public int link(int node, int set, int order, boolean forced, int n)
            throws IndexOutOfBoundsException, IllegalArgumentException, IllegalStateException {
        needNumber(node, nodes.size());
        needNumber(set, sets.size());
        needChoice(order, ORDERS);
        needChoice(n, tape.size() + 1);
        needRoom(links.size(), MOST_LINKS);
        int fault = reader.read(n, groups.size(), nodes.size());
        tape.clear();
        faultPlace = reader.faultPlace();
        if (fault != FilterReader.NO_FAULT) {
            return fault - 10;
        }
        Node place = nodes.get(node);
        Link made = new Link(links.size(), place, sets.get(set), order, forced, reader.filter());
        links.add(made);
        place.insert(made);
        return made.number;
    }

    public int fault() {
        return faultPlace;
    }

    public boolean end(int link) throws IndexOutOfBoundsException {
        needNumber(link, links.size());
        Link ending = links.get(link);
        if (ending.ended) {
            return false;
        }
        ending.ended = true;
        ending.node.remove(ending);
        return true;
    }

    public int outcome(int machine, int setting) throws IndexOutOfBoundsException, IllegalArgumentException {
        findOutcome(machine, setting);
        return outcome.size();
    }

    public int value(int machine, int setting, int k) throws IndexOutOfBoundsException, IllegalArgumentException {
        findOutcome(machine, setting);
        return outcome.valueAt(k);
    }

    public int reason(int machine, int setting) throws IndexOutOfBoundsException, IllegalArgumentException {
        findOutcome(machine, setting);
        Link link = outcome.teller();
        return link == null ? NONE : link.number;
    }

    public int beaten(int machine, int setting, int k) throws IndexOutOfBoundsException, IllegalArgumentException {
        findOutcome(machine, setting);
        int passed = 0;
        for (int i = 0; i < row.size(); i++) {
            Link link = row.linkAt(i);
            if (link == null || link == outcome.teller() || !row.holds(i, 0)) {
                continue;
            }
            if (passed == k) {
                return link.number;
            }
            passed++;
        }
        return NONE;
    }

    public boolean sure(int machine, int setting) throws IndexOutOfBoundsException, IllegalArgumentException {
        findOutcome(machine, setting);
        int doubted = row.doubtedFacts();
        for (int lane = 0; lane < Standing.LANES; lane++) {
            if ((lane * Standing.LANE & ~doubted) == 0) {
                row.weigh(lane);
                if (!isSameInLane(setting, doubted)) {
                    return false;
                }
            }
        }
        return true;
    }

    public int reach(int link) throws IndexOutOfBoundsException {
        needNumber(link, links.size());
        return listReach(links.get(link));
    }

    public int reached(int link, int k, int what) throws IndexOutOfBoundsException, IllegalArgumentException {
        needNumber(link, links.size());
        needChoice(what, 2);
        int size = listReach(links.get(link));
        if (k < 0 || k >= size || k >= pairs.length) {
            return NONE;
        }
        return what == 0 ? pairs[k] / SETTINGS : pairs[k] % SETTINGS;
    }

    public int quarrels() {
        int settings = settingsOfLast();
        int total = 0;
        for (int lower = 0; lower < links.size(); lower++) {
            total += countQuarrels(lower, settings);
        }
        return total;
    }

    public int quarrel(int k, int what) throws IllegalArgumentException {
        needChoice(what, 2);
        if (k < 0) {
            return NONE;
        }
        int settings = settingsOfLast();
        int left = k;
        for (int lower = 0; lower < links.size(); lower++) {
            int here = countQuarrels(lower, settings);
            if (left < here) {
                return what == 0 ? lower : findQuarreller(lower, settings, left);
            }
            left -= here;
        }
        return NONE;
    }

    public int count(int what) {
        switch (what) {
            case 0:
                return nodes.size();
            case 1:
                return machines.size();
            case 2:
                return groups.size();
            case 3:
                return sets.size();
            case 4:
                return links.size();
            case 5:
                return countLasting();
            case 6:
                return tape.size();
            default:
                return NONE;
        }
    }

    private static void needNumber(int number, int size) {
        if (number < 0 || number >= size) {
            throw new IndexOutOfBoundsException("none has this number");
        }
    }

    private static void needChoice(int choice, int choices) {
        if (choice < 0 || choice >= choices) {
            throw new IllegalArgumentException("no such choice");
        }
    }

    private static void needRoom(int size, int most) {
        if (size >= most) {
            throw new IllegalStateException("there are as many as may be");
        }
    }

    /** Leaves the links that may tell the setting in row, weighed for what is known, and the outcome in outcome. */
    private void findOutcome(int machine, int setting) {
        needNumber(machine, machines.size());
        needChoice(setting, SETTINGS);
        row.collect(machines.get(machine), groups.groupsOf(machine), 1 << setting);
        row.weigh(0);
        outcome.read(row, setting, laws[setting], 0, null);
    }

    private boolean isSameInLane(int setting, int doubted) {
        if (setting < 0 || setting >= laws.length) {
            return true;
        }
        for (int guess = 0; guess < Standing.LANE; guess++) {
            if ((guess & ~doubted) == 0) {
                otherOutcome.read(row, setting, laws[setting], guess, null);
                if (!otherOutcome.isSame(outcome)) {
                    return false;
                }
            }
        }
        return true;
    }

    /** How many outcomes of a machine differ between the tree as it is and with the node moved; the tree stays. */
    private int countMoved(int machine, Node moved, Node target) {
        if (machine < 0 || machine >= machines.size()) {
            return 0;
        }
        Machine asked = machines.get(machine);
        int groupsOf = groups.groupsOf(machine);
        row.collect(asked, groupsOf, Bundle.ALL);
        row.weigh(0);
        Node old = moved.above;
        moved.above = target;
        otherRow.collect(asked, groupsOf, Bundle.ALL);
        otherRow.weigh(0);
        moved.above = old;
        int changed = 0;
        for (int setting = 0; setting < laws.length; setting++) {
            outcome.read(row, setting, laws[setting], 0, null);
            otherOutcome.read(otherRow, setting, laws[setting], 0, null);
            if (!outcome.isSame(otherOutcome)) {
                changed++;
            }
        }
        return changed;
    }

    /** Writes the reach of a link to pairs, and answers how many there are. */
    private int listReach(Link link) {
        int size = 0;
        if (link.ended) {
            return size;
        }
        for (int i = 0; i < machines.size(); i++) {
            Machine machine = machines.get(i);
            if (machine.node.isWithin(link.node)) {
                row.collect(machine, groups.groupsOf(i), link.set.toldSettings());
                row.weigh(0);
                size = addReach(link, i, size);
            }
        }
        return size;
    }

    private int addReach(Link link, int machine, int size) {
        int grown = size;
        for (int setting = 0; setting < laws.length; setting++) {
            if (!link.set.tells(setting)) {
                continue;
            }
            outcome.read(row, setting, laws[setting], 0, null);
            otherOutcome.read(row, setting, laws[setting], 0, link);
            if (!outcome.isSame(otherOutcome) && grown >= 0 && grown < pairs.length) {
                pairs[grown] = machine * SETTINGS + setting;
                grown++;
            }
        }
        return grown;
    }

    private int settingsOfLast() {
        int settings = 0;
        for (int i = 0; i < laws.length; i++) {
            if (laws[i] == LAST) {
                settings |= 1 << i;
            }
        }
        return settings;
    }

    private int countQuarrels(int lower, int settings) {
        int total = 0;
        if (lower >= 0 && lower < links.size()) {
            Link link = links.get(lower);
            for (int other = lower + 1; other < links.size(); other++) {
                if (link.quarrelsWith(links.get(other), settings)) {
                    total++;
                }
            }
        }
        return total;
    }

    private int findQuarreller(int lower, int settings, int k) {
        if (lower < 0 || lower >= links.size()) {
            return NONE;
        }
        Link link = links.get(lower);
        int passed = 0;
        for (int other = lower + 1; other < links.size(); other++) {
            if (link.quarrelsWith(links.get(other), settings)) {
                if (passed == k) {
                    return other;
                }
                passed++;
            }
        }
        return NONE;
    }

    private int countLasting() {
        int lasting = 0;
        for (int i = 0; i < links.size(); i++) {
            if (!links.get(i).ended) {
                lasting++;
            }
        }
        return lasting;
    }

    private static final class Node {
        final int number;
        Node above;
        boolean blocked;
        /** Those that have not ended, by order, then by number. */
        private final ArrayList<Link> links = new ArrayList<>();

        Node(int number, Node above) {
            this.number = number;
            this.above = above;
        }

        /** Whether this is that node, or below it. */
        boolean isWithin(Node top) {
            for (Node here = this; here != null; here = here.above) {
                if (here == top) {
                    return true;
                }
            }
            return false;
        }

        int size() {
            return links.size();
        }

        Link linkAt(int i) {
            return i >= 0 && i < links.size() ? links.get(i) : null;
        }

        /** A new link has the highest number, so it comes behind all others of its order. */
        void insert(Link link) {
            int place = links.size();
            for (int i = links.size() - 1; i >= 0; i--) {
                if (links.get(i).order <= link.order) {
                    break;
                }
                place = i;
            }
            links.add(place, link);
        }

        void remove(Link link) {
            for (int i = 0; i < links.size(); i++) {
                if (links.get(i) == link) {
                    links.remove(i);
                    return;
                }
            }
        }
    }

    private static final class Machine {
        final Node node;
        private int known;
        private int yes;

        Machine(Node node) {
            this.node = node;
        }

        int knownFacts() {
            return known;
        }

        int yesFacts() {
            return yes;
        }

        int factNow(int fact) {
            if ((known >>> fact & 1) == 0) {
                return -1;
            }
            return yes >>> fact & 1;
        }

        void learn(int fact, int v) {
            int bit = 1 << fact;
            known = v < 0 ? known & ~bit : known | bit;
            yes = v > 0 ? yes | bit : yes & ~bit;
        }
    }

    private static final class Groups {
        private final long[] machinesIn = new long[MOST_GROUPS];
        private final int[] groupsIn = new int[MOST_GROUPS];
        private int size;

        int size() {
            return size;
        }

        int add() {
            size++;
            return size - 1;
        }

        boolean putMachine(int group, int machine, boolean is) {
            if (group < 0 || group >= machinesIn.length) {
                return false;
            }
            long bit = 1L << machine;
            boolean was = (machinesIn[group] & bit) != 0;
            machinesIn[group] = is ? machinesIn[group] | bit : machinesIn[group] & ~bit;
            return was;
        }

        boolean putGroup(int group, int other, boolean is) {
            if (group < 0 || group >= groupsIn.length) {
                return false;
            }
            int bit = 1 << other;
            boolean was = (groupsIn[group] & bit) != 0;
            groupsIn[group] = is ? groupsIn[group] | bit : groupsIn[group] & ~bit;
            return was;
        }

        /** The groups that a machine is a member of, a bit each. */
        int groupsOf(int machine) {
            int found = 0;
            for (int i = 0; i < machinesIn.length; i++) {
                found |= (int) (machinesIn[i] >>> machine & 1) << i;
            }
            // Each round but the last finds a group, so rings come to an end too.
            for (int round = 0; round < groupsIn.length; round++) {
                int grown = found | groupsAround(found);
                if (grown == found) {
                    break;
                }
                found = grown;
            }
            return found;
        }

        private int groupsAround(int inner) {
            int around = 0;
            for (int i = 0; i < groupsIn.length; i++) {
                if ((groupsIn[i] & inner) != 0) {
                    around |= 1 << i;
                }
            }
            return around;
        }
    }

    /** What the document calls a SET. */
    private static final class Bundle {
        static final int ALL = (1 << SETTINGS) - 1;

        private final int[] values = new int[SETTINGS];
        private int told;

        int toldSettings() {
            return told;
        }

        boolean tells(int setting) {
            return (told >>> setting & 1) != 0;
        }

        int valueOf(int setting) {
            return setting >= 0 && setting < values.length ? values[setting] : 0;
        }

        boolean put(int setting, int value) {
            if (setting < 0 || setting >= values.length || tells(setting) && values[setting] == value) {
                return false;
            }
            values[setting] = value;
            told |= 1 << setting;
            return true;
        }

        boolean drop(int setting) {
            boolean did = tells(setting);
            told &= ~(1 << setting);
            return did;
        }

        /** Whether both tell one of these settings, and unlike values of it. */
        boolean differs(Bundle other, int settings) {
            int shared = told & other.told & settings;
            for (int i = 0; i < values.length; i++) {
                if ((shared >>> i & 1) != 0 && values[i] != other.valueOf(i)) {
                    return true;
                }
            }
            return false;
        }
    }

    private static final class Link {
        final int number;
        final Node node;
        final Bundle set;
        final int order;
        final boolean forced;
        final Filter filter;
        boolean ended;

        Link(int number, Node node, Bundle set, int order, boolean forced, Filter filter) {
            this.number = number;
            this.node = node;
            this.set = set;
            this.order = order;
            this.forced = forced;
            this.filter = filter;
        }

        boolean quarrelsWith(Link other, int settings) {
            return !ended && !other.ended && node == other.node && forced == other.forced
                    && order == other.order && set.differs(other.set, settings);
        }
    }

    private static final class Tape {
        static final int MOST = 200;

        private final byte[] bytes = new byte[MOST];
        private int size;

        int size() {
            return size;
        }

        boolean hasRoom(int more) {
            return size + more <= MOST;
        }

        void addNumber(int number) {
            for (int shift = 24; shift >= 0; shift -= 8) {
                if (size >= 0 && size < bytes.length) {
                    bytes[size] = (byte) (number >>> shift);
                    size++;
                }
            }
        }

        int byteAt(int place) {
            return place >= 0 && place < size && place < bytes.length ? bytes[place] & 255 : NONE;
        }

        void clear() {
            size = 0;
        }
    }

    /** A filter's text as steps on a stack: each atom is put there, each of not, and, or works on what stands on top. */
    private static final class Filter {
        static final int GROUP = 0;
        static final int FACT = 1;
        static final int NODE = 2;
        static final int NOT = 3;
        static final int AND = 4;
        static final int OR = 5;
        static final int NUMBERS = 256;

        private final int[] steps;

        Filter(int[] steps) {
            this.steps = steps;
        }

        int mentionedFacts() {
            int facts = 0;
            for (int i = 0; i < steps.length; i++) {
                if (steps[i] / NUMBERS == FACT) {
                    facts |= 1 << (steps[i] % NUMBERS);
                }
            }
            return facts;
        }

        /** In which guesses of the standing's lane the filter holds, a bit each. */
        long weigh(Standing standing) {
            long[] stack = standing.stack;
            int top = 0;
            for (int i = 0; i < steps.length; i++) {
                int kind = steps[i] / NUMBERS;
                if (kind < NOT) {
                    if (top < stack.length) {
                        stack[top] = standing.weighAtom(kind, steps[i] % NUMBERS);
                        top++;
                    }
                } else if (kind == NOT) {
                    if (top > 0) {
                        stack[top - 1] = ~stack[top - 1];
                    }
                } else if (top > 1) {
                    top--;
                    long left = stack[top - 1];
                    stack[top - 1] = kind == AND ? left & stack[top] : left | stack[top];
                }
            }
            return top > 0 ? stack[top - 1] : -1L;
        }
    }

    /** Reads filters from the tape, one after the other. */
    private static final class FilterReader {
        static final int NO_FAULT = 0;
        private static final int MISPLACED = 1;
        private static final int UNKNOWN = 2;
        private static final int TOO_DEEP = 3;
        private static final int MOST_OPEN = 10;
        private static final int BLANK = 32;

        private final Tape tape;
        private int length;
        private int groups;
        private int nodes;
        private int at;
        private int fault;
        private int faultPlace;
        private final int[] steps = new int[Tape.MOST];
        private int size;

        FilterReader(Tape tape) {
            this.tape = tape;
        }

        /** The fault of the tape's first bytes as a filter, NO_FAULT without. */
        int read(int bytes, int groupsSoFar, int nodesSoFar) {
            length = bytes;
            groups = groupsSoFar;
            nodes = nodesSoFar;
            at = 0;
            fault = NO_FAULT;
            faultPlace = NONE;
            size = 0;
            skipBlanks();
            if (at < length) {
                readEither(0);
                skipBlanks();
                if (at < length) {
                    blame(MISPLACED, at);
                }
            }
            return fault;
        }

        int faultPlace() {
            return faultPlace;
        }

        Filter filter() {
            return new Filter(Arrays.copyOf(steps, Math.max(size, 0)));
        }

        /** A text of the document's C. */
        private void readEither(int open) {
            readBoth(open);
            for (int round = 0; round < Tape.MOST && takesWord("or"); round++) {
                readBoth(open);
                addStep(Filter.OR, 0);
            }
        }

        /** A text of the document's A. */
        private void readBoth(int open) {
            readOne(open);
            for (int round = 0; round < Tape.MOST && takesWord("and"); round++) {
                readOne(open);
                addStep(Filter.AND, 0);
            }
        }

        /** A text of the document's B. */
        private void readOne(int open) {
            skipBlanks();
            int start = at;
            if (takesByte('(')) {
                if (mayOpen(open, start)) {
                    readEither(open + 1);
                    skipBlanks();
                    if (!takesByte(')')) {
                        blame(MISPLACED, at);
                    }
                }
            } else if (takesWord("not")) {
                if (mayOpen(open, start)) {
                    readOne(open + 1);
                    addStep(Filter.NOT, 0);
                }
            } else if (takesWord("group")) {
                readNumber(Filter.GROUP, groups);
            } else if (takesWord("fact")) {
                readNumber(Filter.FACT, FACTS);
            } else if (takesWord("node")) {
                readNumber(Filter.NODE, nodes);
            } else {
                blame(MISPLACED, at);
            }
        }

        private boolean mayOpen(int open, int start) {
            if (open >= MOST_OPEN) {
                blame(TOO_DEEP, start);
            }
            return fault == NO_FAULT;
        }

        private void readNumber(int kind, int bound) {
            skipBlanks();
            int start = at;
            int number = 0;
            while (at < length && isBetween(tape.byteAt(at), '0', '9')) {
                // Nothing has a number as high as this, however many digits follow.
                number = Math.min(number * 10 + tape.byteAt(at) - '0', Filter.NUMBERS - 1);
                at++;
            }
            if (at == start) {
                blame(MISPLACED, at);
            } else if (number >= bound) {
                blame(UNKNOWN, start);
            } else {
                addStep(kind, number);
            }
        }

        private void skipBlanks() {
            while (at < length && tape.byteAt(at) == BLANK) {
                at++;
            }
        }

        private boolean takesByte(char wanted) {
            if (fault != NO_FAULT || at >= length || tape.byteAt(at) != wanted) {
                return false;
            }
            at++;
            return true;
        }

        /** Takes the word that stands next, if it is this one, whole. */
        private boolean takesWord(String wanted) {
            skipBlanks();
            int end = at;
            while (end < length && isBetween(tape.byteAt(end), 'a', 'z')) {
                end++;
            }
            if (fault != NO_FAULT || end - at != wanted.length()) {
                return false;
            }
            for (int i = 0; i < wanted.length(); i++) {
                if (tape.byteAt(at + i) != wanted.charAt(i)) {
                    return false;
                }
            }
            at = end;
            return true;
        }

        private static boolean isBetween(int sign, int least, int most) {
            return sign >= least && sign <= most;
        }

        private void addStep(int kind, int number) {
            if (size >= 0 && size < steps.length) {
                steps[size] = kind * Filter.NUMBERS + number;
                size++;
            }
        }

        /** The first one stays: reading goes from the left, and takes nothing more behind a fault. */
        private void blame(int kind, int place) {
            if (fault == NO_FAULT) {
                fault = kind;
                faultPlace = place;
            }
        }
    }

    /**
     * Where a machine stands, as filters ask for it. A guess is a number whose bit f says that fact f is yes, if it is
     * not known. A lane is 64 guesses, weighed at once, a bit of a long each; guess 0 of lane 0 is all unknown facts no.
     */
    private static final class Standing {
        static final int LANES = 4;
        static final int LANE = 64;
        /** In which guesses of a lane each of the first six facts is yes; the others are the lane's number. */
        private static final long[] GUESSES = {
            0xAAAAAAAAAAAAAAAAL, 0xCCCCCCCCCCCCCCCCL, 0xF0F0F0F0F0F0F0F0L,
            0xFF00FF00FF00FF00L, 0xFFFF0000FFFF0000L, 0xFFFFFFFF00000000L
        };

        /** For filters to work on: ten open brackets, with two waiting in and around each, stay far below this. */
        final long[] stack = new long[LANE];
        private final long[] facts = new long[FACTS];
        private int known;
        private int yes;
        private int groups;
        private long way;

        void enter(Machine machine, int groupsOf, long wayNodes) {
            known = machine.knownFacts();
            yes = machine.yesFacts();
            groups = groupsOf;
            way = wayNodes;
        }

        void guess(int lane) {
            for (int i = 0; i < facts.length; i++) {
                if ((known >>> i & 1) != 0) {
                    facts[i] = spread((yes >>> i & 1) != 0);
                } else if (i < GUESSES.length) {
                    facts[i] = GUESSES[i];
                } else {
                    facts[i] = spread((lane >>> (i - GUESSES.length) & 1) != 0);
                }
            }
        }

        int knownFacts() {
            return known;
        }

        long weighAtom(int kind, int number) {
            if (kind == Filter.GROUP) {
                return spread((groups >>> number & 1) != 0);
            }
            if (kind == Filter.NODE) {
                return spread((way >>> number & 1) != 0);
            }
            return number >= 0 && number < facts.length ? facts[number] : 0L;
        }

        private static long spread(boolean is) {
            return is ? -1L : 0L;
        }
    }

    /** The links of a machine's row, in its order, with the guesses in which their filters hold. */
    private static final class Row {
        private final ArrayList<Node> way = new ArrayList<>();
        private final ArrayList<Link> links = new ArrayList<>();
        private final long[] weights = new long[MOST_LINKS];
        private final Standing standing = new Standing();

        /** The links on the way of a machine that tell one of these settings, whatever their filters. */
        void collect(Machine machine, int groupsOf, int settings) {
            way.clear();
            links.clear();
            long wayNodes = 0;
            for (Node here = machine.node; here != null; here = here.above) {
                way.add(here);
                wayNodes |= 1L << here.number;
            }
            standing.enter(machine, groupsOf, wayNodes);
            for (int i = topOfOpen(); i >= 0; i--) {
                addLinks(i, false, settings);
            }
            for (int i = 0; i < way.size(); i++) {
                addLinks(i, true, settings);
            }
        }

        /** Writes down in which guesses of a lane each link holds. */
        void weigh(int lane) {
            standing.guess(lane);
            for (int i = 0; i < links.size() && i < weights.length; i++) {
                weights[i] = links.get(i).filter.weigh(standing);
            }
        }

        int size() {
            return links.size();
        }

        Link linkAt(int i) {
            return i >= 0 && i < links.size() ? links.get(i) : null;
        }

        boolean holds(int i, int guess) {
            return i >= 0 && i < weights.length && (weights[i] >>> guess & 1) != 0;
        }

        /** The facts that are not known, and that a filter asks for. */
        int doubtedFacts() {
            int mentioned = 0;
            for (int i = 0; i < links.size(); i++) {
                mentioned |= links.get(i).filter.mentionedFacts();
            }
            return mentioned & ~standing.knownFacts();
        }

        /** The highest place on the way from which links that are not forced come down to the machine. */
        private int topOfOpen() {
            for (int i = 0; i < way.size(); i++) {
                if (way.get(i).blocked) {
                    return i;
                }
            }
            return way.size() - 1;
        }

        private void addLinks(int place, boolean forced, int settings) {
            if (place < 0 || place >= way.size()) {
                return;
            }
            Node here = way.get(place);
            for (int i = 0; i < here.size(); i++) {
                Link link = here.linkAt(i);
                if (link != null && link.forced == forced && (link.set.toldSettings() & settings) != 0) {
                    links.add(link);
                }
            }
        }
    }

    private static final class Outcome {
        private final int[] values = new int[MOST_LINKS];
        private int size;
        private Link link;

        /** Takes what a row tells of a setting in one guess, as if one link (or none: null) had ended. */
        void read(Row row, int setting, int law, int guess, Link without) {
            size = 0;
            link = null;
            for (int i = 0; i < row.size(); i++) {
                Link next = row.linkAt(i);
                if (next != null && next != without && row.holds(i, guess) && next.set.tells(setting)) {
                    take(next, next.set.valueOf(setting), law);
                }
            }
        }

        int size() {
            return size;
        }

        Link teller() {
            return link;
        }

        int valueAt(int k) {
            return k >= 0 && k < size && k < values.length ? values[k] : 0;
        }

        boolean isSame(Outcome other) {
            if (size != other.size) {
                return false;
            }
            for (int i = 0; i < size; i++) {
                if (valueAt(i) != other.valueAt(i)) {
                    return false;
                }
            }
            return true;
        }

        private void take(Link next, int value, int law) {
            if (law == LIST) {
                if (!has(value) && size >= 0 && size < values.length) {
                    values[size] = value;
                    size++;
                }
                link = next;
            } else if (size == 0 || law == LAST || law == LEAST && value < values[0]) {
                values[0] = value;
                size = 1;
                link = next;
            }
        }

        private boolean has(int value) {
            for (int i = 0; i < size; i++) {
                if (valueAt(i) == value) {
                    return true;
                }
            }
            return false;
        }
    }
}
