import java.util.List;
import java.util.Random;

/** Random runs of calls, each answer held against Model's. The seeds are fixed, so a failure comes again. */
public final class ModelTests {
    private static final int RUNS = 300;
    private static final int CALLS = 512;

    private final Random random;
    private final PolicyTree x = new PolicyTree();
    private final Model model = new Model();
    /** One of so many arguments is wrong. */
    private final int wrongArguments;
    /** So many settings are in use: the fewer, the more links meet at one. */
    private final int settings;
    private final boolean longTexts;
    private String call = "";
    private int calls;
    private int wrong;

    private interface Asked {
        long ask();
    }

    private ModelTests(int seed) {
        random = new Random(seed);
        wrongArguments = seed % 5 == 0 ? 10 : 300;
        settings = new int[] {1, 3, 12}[seed % 3];
        longTexts = seed % 4 == 0;
    }

    public static void main(String[] args) {
        int wrong = 0;
        for (int seed = 0; seed < RUNS; seed++) {
            ModelTests run = new ModelTests(seed);
            run.build();
            while (run.calls < CALLS && run.wrong == 0) {
                run.step();
            }
            if (run.wrong != 0) {
                wrong++;
                System.out.println("run " + seed + ", call " + run.calls);
            }
        }
        System.out.println(wrong == 0 ? "all " + RUNS + " runs are as due" : wrong + " runs are not as due");
        if (wrong != 0) {
            System.exit(1);
        }
    }

    private void build() {
        int nodes = random.nextInt(longTexts ? 20 : 5);
        for (int i = 0; i < nodes; i++) {
            step(0);
        }
        for (int i = 0; i < 4; i++) {
            step(3);
            step(5);
            step(8);
            step(6);
            step(7);
        }
        for (int i = 0; i < 6 + settings * 2; i++) {
            step(9);
        }
        for (int i = 0; i < 3 + settings; i++) {
            step(11);
        }
        for (int i = 0; i < 15; i++) {
            step(12);
        }
    }

    private void step() {
        int[] changes = {0, 1, 2, 2, 2, 3, 4, 4, 4, 4, 5, 6, 6, 7, 8, 9, 9, 9, 10, 11, 12, 12, 12, 12, 13};
        boolean change = random.nextInt(100) < 35;
        step(change ? changes[random.nextInt(changes.length)] : 14 + random.nextInt(11));
    }

    private void step(int kind) {
        int a = number(kind);
        int s = pick(settings);
        int k = random.nextInt(6) - 1;
        int v = random.nextInt(5) - 2;
        boolean is = random.nextInt(3) > 0;
        int nodes = model.count(0);
        int machines = model.count(1);
        int groups = model.count(2);
        int sets = model.count(3);
        int links = model.count(4);
        switch (kind) {
            case 0 -> same("node", () -> x.node(a), () -> model.node(a));
            case 1 -> { int n = pick(nodes); boolean blocks = random.nextInt(3) == 0;
                same("block", () -> bit(x.block(n, blocks)), () -> bit(model.block(n, blocks))); }
            case 2 -> { int n = pick(nodes); int m = pick(nodes);
                same("move", () -> x.move(n, m), () -> model.move(n, m)); }
            case 3 -> { int n = pick(nodes); same("machine", () -> x.machine(n), () -> model.machine(n)); }
            case 4 -> { int m = pick(machines); int f = pick(8); int w = random.nextInt(40) == 0 ? 2 : random.nextInt(3) - 1;
                same("fact", () -> x.fact(m, f, w), () -> model.fact(m, f, w)); }
            case 5 -> same("group", () -> x.group(), () -> model.group());
            case 6 -> { int g = pick(groups); int m = pick(machines);
                same("joins", () -> bit(x.joins(g, m, is)), () -> bit(model.joins(g, m, is))); }
            case 7 -> { int g = pick(groups); int h = pick(groups);
                same("within", () -> bit(x.within(g, h, is)), () -> bit(model.within(g, h, is))); }
            case 8 -> same("set", () -> x.set(), () -> model.set());
            case 9 -> { int t = pick(sets); same("tell", () -> bit(x.tell(t, s, v)), () -> bit(model.tell(t, s, v))); }
            case 10 -> { int t = pick(sets); same("untell", () -> bit(x.untell(t, s)), () -> bit(model.untell(t, s))); }
            case 11 -> { int law = random.nextInt(30) == 0 ? 3 : random.nextInt(3);
                same("law", () -> x.law(s, law), () -> model.law(s, law)); }
            case 12 -> link(pick(nodes), pick(sets), pick(random.nextBoolean() ? 2 : 100), random.nextInt(3) == 0);
            case 13 -> { int l = pick(links); same("end", () -> bit(x.end(l)), () -> bit(model.end(l))); }
            case 14 -> { int m = pick(machines);
                same("outcome", () -> x.outcome(m, s), () -> model.values(m, s).size()); }
            case 15 -> { int m = pick(machines);
                same("value", () -> x.value(m, s, k), () -> at(model.values(m, s), k, 0)); }
            case 16 -> { int m = pick(machines); same("reason", () -> x.reason(m, s), () -> model.reason(m, s)); }
            case 17 -> { int m = pick(machines);
                same("beaten", () -> x.beaten(m, s, k), () -> at(model.beaten(m, s), k, -1)); }
            case 18, 19 -> { int m = pick(machines);
                same("sure", () -> bit(x.sure(m, s)), () -> bit(model.sure(m, s))); }
            case 20 -> { int l = pick(links); same("reach", () -> x.reach(l), () -> model.reach(l).size()); }
            case 21 -> { int l = pick(links); int what = pick(2);
                same("reached", () -> x.reached(l, k, what), () -> part(model.reach(l), k, what)); }
            case 22 -> same("quarrels", () -> x.quarrels(), () -> model.quarrels().size());
            case 23 -> { int what = pick(2);
                same("quarrel", () -> x.quarrel(k, what), () -> part(model.quarrels(), k, what)); }
            default -> { int g = pick(groups); int m = pick(machines); int what = pick(7);
                same("member", () -> bit(x.member(g, m)), () -> bit(model.member(g, m)));
                same("count", () -> x.count(what), () -> model.count(what)); }
        }
    }

    /** New nodes come mostly below the newest ones, so that ways are long. */
    private int number(int kind) {
        int nodes = model.count(0);
        return kind == 0 && random.nextBoolean() ? nodes - 1 : pick(nodes);
    }

    private void link(int node, int set, int order, boolean forced) {
        String text = text();
        for (int at = 0; at < text.length(); at += 20) {
            int[] n = new int[5];
            for (int i = 0; i < 20; i++) {
                n[i / 4] |= (at + i < text.length() ? text.charAt(at + i) : 'z') << 24 - i % 4 * 8;
            }
            same("feed", () -> x.feed(n[0], n[1], n[2], n[3], n[4]), () -> model.feed(n[0], n[1], n[2], n[3], n[4]));
        }
        int length = random.nextInt(30) == 0 ? random.nextInt(210) - 1 : text.length();
        same("link \"" + text + "\"", () -> x.link(node, set, order, forced, length),
                () -> model.link(node, set, order, forced, length));
        same("fault", () -> x.fault(), () -> model.fault);
        same("tape", () -> x.count(6), () -> model.count(6));
    }

    private String text() {
        int kind = random.nextInt(10);
        if (kind == 0) {
            return "";
        }
        if (!longTexts) {
            return (kind == 1 ? "" : "not ".repeat(kind % 2)) + (kind < 4 ? either(0) : one(0));
        }
        String text = either(kind == 1 ? 5 : random.nextInt(3));
        if (kind == 2) {
            String opening = random.nextBoolean() ? "not " : "(";
            int times = random.nextInt(13);
            text = opening.repeat(times) + text + (opening.equals("(") ? ")".repeat(times) : "");
        }
        if (random.nextInt(4) == 0 && !text.isEmpty()) {
            int at = random.nextInt(text.length());
            String[] bits = {"", " ", "(", ")", "not ", "or", "and", "9", "0", "x", "fact", "\0", "" + (char) 200};
            text = text.substring(0, at) + bits[random.nextInt(bits.length)] + text.substring(at + random.nextInt(2));
        }
        return text.length() > 200 ? text.substring(0, 200) : text;
    }

    private String either(int depth) {
        String text = both(depth);
        for (int i = random.nextInt(3); i > 0; i--) {
            text += blank() + "or " + both(depth);
        }
        return text;
    }

    private String both(int depth) {
        String text = one(depth);
        for (int i = random.nextInt(3); i > 0; i--) {
            text += blank() + "and " + one(depth);
        }
        return text;
    }

    private String one(int depth) {
        int kind = random.nextInt(depth > 0 ? 8 : 6);
        if (kind > 5) {
            return "(" + either(depth - 1) + blank() + ")";
        }
        String text = kind == 5 ? "not " : "";
        int atom = random.nextInt(6);
        String zero = random.nextInt(20) == 0 ? "00" : "";
        if (atom == 0) {
            return text + "group" + blank() + zero + random.nextInt(model.count(2) + (wrongArguments < 20 ? 2 : 0) + 1);
        }
        if (atom == 1) {
            return text + "node" + blank() + zero + random.nextInt(model.count(0) + (wrongArguments < 20 ? 2 : 0));
        }
        return text + "fact" + blank() + zero + random.nextInt(wrongArguments < 20 ? 10 : 8);
    }

    private String blank() {
        return " ".repeat(Math.max(0, random.nextInt(6) - 3));
    }

    private int pick(int size) {
        if (random.nextInt(wrongArguments) == 0) {
            int[] odd = {-1, size, Integer.MIN_VALUE, Integer.MAX_VALUE, size + 1};
            return odd[random.nextInt(odd.length)];
        }
        return size == 0 ? 0 : random.nextInt(size);
    }

    private static long bit(boolean is) {
        return is ? 1 : 0;
    }

    private static long at(List<Integer> list, int k, long without) {
        return k >= 0 && k < list.size() ? list.get(k) : without;
    }

    private static long part(List<int[]> list, int k, int what) {
        if (what != 0 && what != 1) {
            throw new IllegalArgumentException();
        }
        return k >= 0 && k < list.size() ? list.get(k)[what] : -1;
    }

    private static String answer(Asked mine) {
        try {
            return "" + mine.ask();
        } catch (RuntimeException e) {
            return Check.name(e);
        }
    }

    private static String due(Asked due) {
        try {
            return "" + due.ask();
        } catch (RuntimeException e) {
            return e.getClass().getSimpleName();
        }
    }

    private void same(String name, Asked mine, Asked due) {
        calls++;
        call = name;
        String got = answer(mine);
        String want = due(due);
        if (!got.equals(want)) {
            wrong++;
            System.out.println(call + " answered " + got + ", due is " + want);
        }
    }
}
