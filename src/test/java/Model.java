import java.util.ArrayDeque;
import java.util.ArrayList;
import java.util.Comparator;
import java.util.Deque;
import java.util.HashSet;
import java.util.LinkedHashSet;
import java.util.List;
import java.util.Map;
import java.util.Set;
import java.util.TreeMap;

/** The document said once more, slowly and with the library, for ModelTests to hold the class against. */
final class Model {
    static final class L {
        int number;
        int node;
        int set;
        int order;
        boolean forced;
        boolean ended;
        List<String> filter;
    }

    final List<Integer> above = new ArrayList<>();
    final Set<Integer> blocked = new HashSet<>();
    final List<Integer> machineAt = new ArrayList<>();
    final List<int[]> facts = new ArrayList<>();
    final List<Set<Integer>> machinesIn = new ArrayList<>();
    final List<Set<Integer>> groupsIn = new ArrayList<>();
    final List<Map<Integer, Integer>> sets = new ArrayList<>();
    final List<L> links = new ArrayList<>();
    final int[] laws = new int[12];
    String tape = "";
    int fault = -1;

    Model() {
        above.add(-1);
    }

    private static void index(int i, List<?> in) {
        if (i < 0 || i >= in.size()) {
            throw new IndexOutOfBoundsException();
        }
    }

    private static void argument(boolean good) {
        if (!good) {
            throw new IllegalArgumentException();
        }
    }

    private static void state(boolean good) {
        if (!good) {
            throw new IllegalStateException();
        }
    }

    int node(int up) {
        index(up, above);
        state(above.size() < 60);
        above.add(up);
        return above.size() - 1;
    }

    boolean block(int node, boolean is) {
        index(node, above);
        return is ? !blocked.add(node) : blocked.remove(node);
    }

    int move(int node, int up) {
        index(node, above);
        index(up, above);
        if (node == 0 || way(up).contains(node)) {
            return -1;
        }
        List<List<Integer>> before = allOutcomes();
        above.set(node, up);
        List<List<Integer>> after = allOutcomes();
        int changed = 0;
        for (int i = 0; i < before.size(); i++) {
            if (!before.get(i).equals(after.get(i))) {
                changed++;
            }
        }
        return changed;
    }

    int machine(int node) {
        index(node, above);
        state(machineAt.size() < 60);
        machineAt.add(node);
        facts.add(new int[] {-1, -1, -1, -1, -1, -1, -1, -1});
        return machineAt.size() - 1;
    }

    int fact(int machine, int fact, int v) {
        index(machine, machineAt);
        argument(fact >= 0 && fact < 8 && v >= -1 && v <= 1);
        int was = facts.get(machine)[fact];
        facts.get(machine)[fact] = v;
        return was;
    }

    int group() {
        state(machinesIn.size() < 20);
        machinesIn.add(new HashSet<>());
        groupsIn.add(new HashSet<>());
        return machinesIn.size() - 1;
    }

    boolean joins(int group, int machine, boolean is) {
        index(group, machinesIn);
        index(machine, machineAt);
        return is ? !machinesIn.get(group).add(machine) : machinesIn.get(group).remove(machine);
    }

    boolean within(int group, int other, boolean is) {
        index(group, machinesIn);
        index(other, machinesIn);
        return is ? !groupsIn.get(group).add(other) : groupsIn.get(group).remove(other);
    }

    boolean member(int group, int machine) {
        index(group, machinesIn);
        index(machine, machineAt);
        Set<Integer> seen = new HashSet<>();
        Deque<Integer> open = new ArrayDeque<>(List.of(group));
        while (!open.isEmpty()) {
            int g = open.pop();
            if (seen.add(g)) {
                if (machinesIn.get(g).contains(machine)) {
                    return true;
                }
                open.addAll(groupsIn.get(g));
            }
        }
        return false;
    }

    int set() {
        state(sets.size() < 40);
        sets.add(new TreeMap<>());
        return sets.size() - 1;
    }

    boolean tell(int set, int setting, int value) {
        index(set, sets);
        argument(setting >= 0 && setting < 12);
        Integer was = sets.get(set).put(setting, value);
        return was == null || was != value;
    }

    boolean untell(int set, int setting) {
        index(set, sets);
        argument(setting >= 0 && setting < 12);
        return sets.get(set).remove(setting) != null;
    }

    int law(int setting, int law) {
        argument(setting >= 0 && setting < 12 && law >= 0 && law < 3);
        int was = laws[setting];
        laws[setting] = law;
        return was;
    }

    int feed(int a, int b, int c, int d, int e) {
        if (tape.length() > 180) {
            return -1;
        }
        for (int number : new int[] {a, b, c, d, e}) {
            tape += "" + (char) (number >>> 24) + (char) (number >>> 16 & 255)
                    + (char) (number >>> 8 & 255) + (char) (number & 255);
        }
        return tape.length();
    }

    int link(int node, int set, int order, boolean forced, int n) {
        index(node, above);
        index(set, sets);
        argument(order >= 0 && order < 100 && n >= 0 && n <= tape.length());
        state(links.size() < 100);
        String text = tape.substring(0, n);
        tape = "";
        fault = -1;
        List<String> tokens = new ArrayList<>();
        int kind = scan(text, tokens);
        if (kind != 0) {
            return kind - 10;
        }
        L link = new L();
        link.number = links.size();
        link.node = node;
        link.set = set;
        link.order = order;
        link.forced = forced;
        link.filter = tokens;
        links.add(link);
        return link.number;
    }

    boolean end(int link) {
        index(link, links);
        boolean had = links.get(link).ended;
        links.get(link).ended = true;
        return !had;
    }

    List<Integer> values(int machine, int setting) {
        index(machine, machineAt);
        argument(setting >= 0 && setting < 12);
        return values(machine, setting, known(machine), -1);
    }

    int reason(int machine, int setting) {
        List<Integer> values = values(machine, setting);
        int found = -1;
        for (L l : telling(machine, setting, known(machine), -1)) {
            boolean first = found == -1 && sets.get(l.set).get(setting).equals(values.get(0));
            if (laws[setting] != 1 || first) {
                found = l.number;
            }
        }
        return found;
    }

    List<Integer> beaten(int machine, int setting) {
        int reason = reason(machine, setting);
        List<Integer> found = new ArrayList<>();
        for (L l : telling(machine, setting, known(machine), -1)) {
            if (l.number != reason) {
                found.add(l.number);
            }
        }
        return found;
    }

    boolean sure(int machine, int setting) {
        List<Integer> due = values(machine, setting);
        for (int guess = 0; guess < 256; guess++) {
            boolean[] yes = known(machine);
            for (int f = 0; f < 8; f++) {
                if (facts.get(machine)[f] == -1) {
                    yes[f] = (guess >> f & 1) == 1;
                }
            }
            if (!values(machine, setting, yes, -1).equals(due)) {
                return false;
            }
        }
        return true;
    }

    List<int[]> reach(int link) {
        index(link, links);
        List<int[]> found = new ArrayList<>();
        for (int m = 0; m < machineAt.size(); m++) {
            for (int s = 0; s < 12; s++) {
                if (!values(m, s).equals(values(m, s, known(m), link))) {
                    found.add(new int[] {m, s});
                }
            }
        }
        return found;
    }

    List<int[]> quarrels() {
        List<int[]> found = new ArrayList<>();
        for (L a : links) {
            for (L b : links) {
                if (a.number < b.number && !a.ended && !b.ended && a.node == b.node && a.order == b.order
                        && a.forced == b.forced && unlike(sets.get(a.set), sets.get(b.set))) {
                    found.add(new int[] {a.number, b.number});
                }
            }
        }
        return found;
    }

    int count(int what) {
        int lasting = (int) links.stream().filter(l -> !l.ended).count();
        int[] counts = {above.size(), machineAt.size(), machinesIn.size(), sets.size(), links.size(), lasting,
            tape.length()};
        return what >= 0 && what < counts.length ? counts[what] : -1;
    }

    private boolean unlike(Map<Integer, Integer> a, Map<Integer, Integer> b) {
        return a.keySet().stream().anyMatch(s -> laws[s] == 0 && b.containsKey(s) && !b.get(s).equals(a.get(s)));
    }

    private List<List<Integer>> allOutcomes() {
        List<List<Integer>> all = new ArrayList<>();
        for (int m = 0; m < machineAt.size(); m++) {
            for (int s = 0; s < 12; s++) {
                all.add(values(m, s));
            }
        }
        return all;
    }

    /** From the root down to the node. */
    private List<Integer> way(int node) {
        List<Integer> way = new ArrayList<>();
        for (int n = node; n != -1; n = above.get(n)) {
            way.add(0, n);
        }
        return way;
    }

    private boolean[] known(int machine) {
        boolean[] yes = new boolean[8];
        for (int f = 0; f < 8; f++) {
            yes[f] = facts.get(machine)[f] == 1;
        }
        return yes;
    }

    private List<Integer> values(int machine, int setting, boolean[] yes, int without) {
        List<Integer> all = new ArrayList<>();
        for (L l : telling(machine, setting, yes, without)) {
            all.add(sets.get(l.set).get(setting));
        }
        if (all.isEmpty() || laws[setting] == 2) {
            return new ArrayList<>(new LinkedHashSet<>(all));
        }
        return laws[setting] == 0 ? all.subList(all.size() - 1, all.size()) : List.of(all.stream().min(Integer::compare).get());
    }

    /** The row's links that tell the setting, by sorting all that are there. */
    private List<L> telling(int machine, int setting, boolean[] yes, int without) {
        List<Integer> way = way(machineAt.get(machine));
        List<L> found = new ArrayList<>();
        for (L l : links) {
            if (!l.ended && l.number != without && way.contains(l.node) && sets.get(l.set).containsKey(setting)
                    && (l.forced || !blockedBelow(way, l.node)) && holds(l.filter, machine, yes)) {
                found.add(l);
            }
        }
        found.sort(Comparator.<L>comparingInt(l -> l.forced ? 1 : 0)
                .thenComparingInt(l -> l.forced ? -way.indexOf(l.node) : way.indexOf(l.node))
                .thenComparingInt(l -> l.order)
                .thenComparingInt(l -> l.number));
        return found;
    }

    private boolean blockedBelow(List<Integer> way, int node) {
        return way.subList(way.indexOf(node) + 1, way.size()).stream().anyMatch(blocked::contains);
    }

    private boolean holds(List<String> t, int machine, boolean[] yes) {
        if (t.isEmpty()) {
            return true;
        }
        for (String word : new String[] {"or", "and"}) {
            int at = splitAt(t, word);
            if (at >= 0) {
                boolean left = holds(t.subList(0, at), machine, yes);
                boolean right = holds(t.subList(at + 1, t.size()), machine, yes);
                return word.equals("or") ? left || right : left && right;
            }
        }
        if (t.get(0).equals("not")) {
            return !holds(t.subList(1, t.size()), machine, yes);
        }
        if (t.get(0).equals("(")) {
            return holds(t.subList(1, t.size() - 1), machine, yes);
        }
        int n = Integer.parseInt(t.get(1));
        return switch (t.get(0)) {
            case "group" -> member(n, machine);
            case "fact" -> yes[n];
            default -> way(machineAt.get(machine)).contains(n);
        };
    }

    private static int splitAt(List<String> t, String word) {
        int depth = 0;
        for (int i = 0; i < t.size(); i++) {
            depth += t.get(i).equals("(") ? 1 : t.get(i).equals(")") ? -1 : 0;
            if (depth == 0 && t.get(i).equals(word)) {
                return i;
            }
        }
        return -1;
    }

    /** Walks over the text token by token with what is open on a stack; answers the fault's kind, its place in fault. */
    private int scan(String text, List<String> tokens) {
        Deque<String> open = new ArrayDeque<>();
        String wanted = "start";
        String word = "";
        int at = 0;
        while (true) {
            while (at < text.length() && text.charAt(at) == ' ') {
                at++;
            }
            String token = tokenAt(text, at);
            int kind = 1;
            if (token.isEmpty() && (wanted.equals("start") || wanted.equals("joint") && open.isEmpty())) {
                return 0;
            } else if (token.isEmpty()) {
                kind = 1;
            } else if (wanted.equals("number")) {
                kind = !token.matches("[0-9]+") ? 1 : token.replaceAll("^0+", "").length() > 3
                        || Integer.parseInt(token) >= bound(word) ? 2 : 0;
                wanted = "joint";
                close(open, "not");
            } else if (wanted.equals("joint")) {
                boolean closes = token.equals(")") && open.contains("(");
                kind = closes || token.equals("and") || token.equals("or") ? 0 : 1;
                if (closes) {
                    open.pop();
                    close(open, "not");
                } else {
                    wanted = "part";
                }
            } else if (token.equals("(") || token.equals("not")) {
                kind = open.size() == 10 ? 3 : 0;
                open.push(token);
                wanted = "part";
            } else if (token.equals("group") || token.equals("fact") || token.equals("node")) {
                kind = 0;
                word = token;
                wanted = "number";
            }
            if (kind != 0) {
                fault = at;
                return kind;
            }
            tokens.add(token);
            at += token.length();
        }
    }

    private int bound(String word) {
        return word.equals("group") ? machinesIn.size() : word.equals("fact") ? 8 : above.size();
    }

    private static void close(Deque<String> open, String what) {
        while (what.equals(open.peek())) {
            open.pop();
        }
    }

    private static String tokenAt(String text, int at) {
        for (String run : new String[] {"[a-z]", "[0-9]"}) {
            int end = at;
            while (end < text.length() && text.substring(end, end + 1).matches(run)) {
                end++;
            }
            if (end > at) {
                return text.substring(at, end);
            }
        }
        return at < text.length() ? text.substring(at, at + 1) : "";
    }
}
