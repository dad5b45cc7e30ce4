import java.util.ArrayList;
import java.util.Arrays;
import java.util.HashMap;
import java.util.List;
import java.util.Map;
import java.util.Random;
import java.util.TreeMap;

/**
 * Runs of calls by chance, on HeadsMeet and on a model that is built otherwise: WIRES are names
 * that NODES bear at their ends, and joining two WIRES is giving one the name of the other; texts
 * are read by methods that call one another; an ENDING is sought by MEETINGS in a chance order.
 */
public final class HeadsMeetAgainstModel {
    private static final int RUNS = 2000;
    // Below 512, as some calls are followed by one or two more.
    private static final int MOST_CALLS = 500;
    private static final int SHOWN = 20;
    private static int wrong = 0;

    public static void main(String[] args) {
        Map<String, Integer> reached = new TreeMap<>();
        long calls = 0;
        for (int run = 0; run < RUNS && wrong < SHOWN; run++) {
            calls += new Run(run, reached).go();
        }
        for (String name : MUST_BE_REACHED) {
            if (reached.getOrDefault(name, 0) == 0) {
                wrong++;
                System.out.println("never reached: " + name);
            }
        }
        System.out.println(calls + " calls, " + (wrong == 0 ? "all answers are as due" : wrong + " are not as due"));
        if (args.length > 0) {
            System.out.println(reached);
        }
        if (wrong != 0) {
            System.exit(1);
        }
    }

    /** What the runs must have come to at least once, or they would prove too little. */
    private static final String[] MUST_BE_REACHED = {
        "letter FULL", "net STATE", "net read", "meet FULL", "meet 1", "meet 2", "meet 3", "run cut", "stop FULL",
        "same 0", "same 1", "same -2", "same STATE", "see FULL", "restore", "restore STATE", "ending NONE",
        "ending rings", "ending above 60 nodes", "ending of 60", "runs above 60 nodes", "kinds none", "kinds one",
        "kinds some", "ask 0", "ask 1", "ask 2", "ask NONE", "reading beyond z", "fault inside"};

    private static final class Run {
        private final int number;
        private final Random chance;
        private final HeadsMeet real = new HeadsMeet();
        private final Model model;
        private final Map<String, Integer> reached;
        private final List<String> rows = new ArrayList<>();
        private int calls = 0;
        private boolean good = true;

        Run(int number, Map<String, Integer> reached) {
            this.number = number;
            this.chance = new Random(7919L * number + 1);
            this.model = new Model(new Random(number));
            this.reached = reached;
        }

        int go() {
            int many = 40 + chance.nextInt(MOST_CALLS - 40 + 1);
            while (calls < many && good) {
                if (!model.hasNet || chance.nextInt(50) == 0) {
                    typeAText(many);
                } else {
                    oneCall();
                }
            }
            return calls;
        }

        private void check(String call, long got, long due) {
            calls++;
            rows.add(call + " -> " + got);
            if (got != due && good) {
                good = false;
                wrong++;
                System.out.println("run " + number + ": " + call + " answered " + got + ", due is " + due);
                int from = Math.max(0, rows.size() - 60);
                System.out.println("  after " + rows.subList(from, rows.size() - 1));
            }
        }

        private void reach(boolean is, String name) {
            if (is) {
                reached.merge(name, 1, Integer::sum);
            }
        }

        private void typeAText(int many) {
            String text = new Texts(chance).next();
            if (chance.nextInt(4) == 0 && calls < many) {
                check("blank()", real.blank(), model.blank());
            }
            for (int i = 0; i < text.length() && calls < many; i++) {
                int code = text.charAt(i);
                int due = model.letter(code);
                reach(due == HeadsMeet.FULL, "letter FULL");
                check("letter(" + code + ")", real.letter(code), due);
            }
            if (calls < many) {
                int due = model.fault();
                reach(due < model.page.length(), "fault inside");
                check("fault()", real.fault(), due);
            }
            if (calls < many) {
                int due = model.net();
                reach(due == HeadsMeet.STATE, "net STATE");
                reach(due >= 0, "net read");
                check("net()", real.net(), due);
                if (due == HeadsMeet.STATE) {
                    check("blank()", real.blank(), model.blank());
                }
            }
        }

        private int someNode() {
            if (chance.nextInt(12) == 0) {
                return chance.nextInt(64) - 2;
            }
            List<Integer> numbers = new ArrayList<>(model.net.nodes.keySet());
            return numbers.isEmpty() ? 0 : numbers.get(chance.nextInt(numbers.size()));
        }

        private int someWire() {
            List<Integer> wires = new ArrayList<>(model.net.open.keySet());
            if (wires.isEmpty() || chance.nextInt(10) == 0) {
                return chance.nextInt(11) - 2;
            }
            return wires.get(chance.nextInt(wires.size()));
        }

        private void askAbout(int node, int what) {
            int due = model.node(node, what);
            if (what == 5 && due >= 0) {
                reach(true, due == 0 ? "kinds none" : Integer.bitCount(due) == 1 ? "kinds one" : "kinds some");
            }
            if (what == 6 && due >= HeadsMeet.NONE) {
                reach(true, "ask " + (due == HeadsMeet.NONE ? "NONE" : due));
            }
            check("node(" + node + ", " + what + ")", real.node(node, what), due);
        }

        private void oneCall() {
            switch (chance.nextInt(24)) {
                case 0: {
                    int code = chance.nextInt(20) == 0 ? chance.nextInt(256) - 64 : 32 + chance.nextInt(95);
                    check("letter(" + code + ")", real.letter(code), model.letter(code));
                    break;
                }
                case 1:
                    check("fault()", real.fault(), model.fault());
                    break;
                case 2: case 3: {
                    int node = someNode();
                    int what = chance.nextInt(7);
                    if (chance.nextInt(20) == 0) what = chance.nextInt(12) - 2;
                    askAbout(node, what);
                    break;
                }
                case 4: {
                    int node = someNode();
                    int what = chance.nextInt(7) - 1;
                    check("as(" + node + ", " + what + ")", real.as(node, what), model.as(node, what));
                    break;
                }
                case 5: {
                    int wire = someWire();
                    check("open(" + wire + ")", real.open(wire), model.open(wire));
                    break;
                }
                case 6: {
                    int what = chance.nextInt(3) == 0 ? 0 : chance.nextInt(3) == 0 ? chance.nextInt(45) - 2 : 10 + chance.nextInt(6);
                    check("meetings(" + what + ")", real.meetings(what), model.meetings(what));
                    break;
                }
                case 7: {
                    int meeting = chance.nextInt(5) - (chance.nextInt(10) == 0 ? 1 : 0);
                    int due = model.meet(meeting);
                    reach(due == HeadsMeet.FULL, "meet FULL");
                    reach(due > 0, "meet " + due);
                    check("meet(" + meeting + ")", real.meet(meeting), due);
                    break;
                }
                case 8: {
                    int many = chance.nextInt(12) == 0 ? chance.nextInt(64) - 1 : chance.nextInt(6) == 0 ? 1 + chance.nextInt(60) : 1 + chance.nextInt(3);
                    int due = model.run(many);
                    reach(due >= 0 && due < many && !model.net.meetings().isEmpty(), "run cut");
                    check("run(" + many + ")", real.run(many), due);
                    break;
                }
                case 9: {
                    if (chance.nextInt(3) != 0) break;
                    int a = someWire();
                    int b = someWire();
                    check("join(" + a + ", " + b + ")", real.join(a, b), model.join(a, b));
                    break;
                }
                case 10: {
                    if (chance.nextInt(3) != 0) break;
                    int wire = someWire();
                    int due = model.stop(wire);
                    reach(due == HeadsMeet.FULL, "stop FULL");
                    check("stop(" + wire + ")", real.stop(wire), due);
                    break;
                }
                case 11: {
                    int node = someNode();
                    int kind = 1 + chance.nextInt(3);
                    if (chance.nextInt(8) == 0) kind = chance.nextInt(7) - 1;
                    check("change(" + node + ", " + kind + ")", real.change(node, kind), model.change(node, kind));
                    break;
                }
                case 12: {
                    int node = someNode();
                    check("flip(" + node + ")", real.flip(node), model.flip(node));
                    break;
                }
                case 13: {
                    int what = chance.nextInt(9) - 1;
                    if (chance.nextInt(3) != 0) what = chance.nextInt(7);
                    int due = model.ending(what);
                    reach(due == HeadsMeet.NONE, "ending NONE");
                    reach(what == 6 && due > model.net.rings, "ending rings");
                    reach(what == 5 && due > 60, "ending above 60 nodes");
                    reach(what == 0 && due == 60, "ending of 60");
                    check("ending(" + what + ")", real.ending(what), due);
                    break;
                }
                case 14: case 15: {
                    int sign = chance.nextInt(10) == 0 ? chance.nextInt(1100) - 50 : chance.nextInt(chance.nextBoolean() ? 30 : 200);
                    int due = model.reading(sign);
                    reach(due == '|' || due > '}', "reading beyond z");
                    check("reading(" + sign + ")", real.reading(sign), due);
                    break;
                }
                case 16: {
                    int sign = chance.nextInt(6) == 0 ? chance.nextInt(1100) - 50 : chance.nextInt(60);
                    check("endReading(" + sign + ")", real.endReading(sign), model.endReading(sign));
                    break;
                }
                case 17: {
                    int due = model.same();
                    reach(true, due == HeadsMeet.STATE ? "same STATE" : "same " + due);
                    check("same()", real.same(), due);
                    break;
                }
                case 18: {
                    int node = someNode();
                    int what = chance.nextInt(4);
                    int bracket = model.kindOf(node);
                    int much = chance.nextInt(64) - 2;
                    if (bracket > 0 && chance.nextInt(4) != 0) {
                        much = model.wouldBe(node, chance.nextInt(2) == 0 ? bracket : 1 + chance.nextInt(3))[what];
                    }
                    if (chance.nextInt(10) == 0) what = chance.nextInt(8) - 2;
                    int due = model.see(node, what, much);
                    reach(due == HeadsMeet.FULL, "see FULL");
                    check("see(" + node + ", " + what + ", " + much + ")", real.see(node, what, much), due);
                    if (due > 0) {
                        askAbout(node, 5);
                        askAbout(node, 6);
                    }
                    break;
                }
                case 19:
                    if (chance.nextInt(3) == 0) check("forget()", real.forget(), model.forget());
                    break;
                case 20: {
                    int many = chance.nextInt(64) - 1;
                    int seed = chance.nextInt(10) == 0 ? -1 - chance.nextInt(5) : chance.nextInt() & 0x7fffffff;
                    int what = chance.nextInt(10) == 0 ? chance.nextInt(6) - 2 : chance.nextInt(3);
                    int due = model.runs(many, seed, what);
                    reach(what == 1 && due > 60, "runs above 60 nodes");
                    check("runs(" + many + ", " + seed + ", " + what + ")", real.runs(many, seed, what), due);
                    break;
                }
                case 21:
                    if (chance.nextInt(2) == 0) {
                        check("image()", real.image(), model.image());
                    } else {
                        int due = model.restore();
                        reach(true, due == HeadsMeet.STATE ? "restore STATE" : "restore");
                        check("restore()", real.restore(), due);
                    }
                    break;
                case 22: {
                    int what = chance.nextInt(17) - 1;
                    check("count(" + what + ")", real.count(what), model.count(what));
                    break;
                }
                default:
                    check("digest()", real.digest(), model.digest());
            }
        }
    }

    /** Texts by chance: mostly NETS, some spoilt, some of a make that grows or lasts long. */
    private static final class Texts {
        private final Random chance;
        private final int[] uses = new int[8];
        private int ends;

        Texts(Random chance) {
            this.chance = chance;
        }

        String next() {
            switch (chance.nextInt(12)) {
                case 0:
                    return spoilt(net());
                case 1:
                    return raw();
                case 2:
                    return many("*=*,", 3 + chance.nextInt(20));
                case 3:
                    return twoCombs();
                case 4:
                    return ("*=" + comb(1 + chance.nextInt(16), "*", "*"));
                case 5:
                    return endless();
                default:
                    return net();
            }
        }

        /** Two that are at one WIRE by more than their HEADS: they copy each other for ever. */
        private String endless() {
            int kind = chance.nextInt(3);
            int other = (kind + 1 + chance.nextInt(2)) % 3;
            String a = chance.nextBoolean() ? "ab" : "ba";
            String b = chance.nextBoolean() ? "ac" : chance.nextBoolean() ? "ca" : "ab";
            return "([{".charAt(kind) + a + ")]}".charAt(kind) + "=" + "([{".charAt(other) + b + ")]}".charAt(other)
                + (chance.nextBoolean() ? ",d=e" : "");
        }

        private String many(String part, int times) {
            StringBuilder text = new StringBuilder();
            for (int i = 0; i < times; i++) {
                text.append(part);
            }
            return text.substring(0, text.length() - 1);
        }

        private String comb(int depth, String leaf, String last) {
            String text = last;
            int kind = chance.nextInt(3);
            for (int i = 0; i < depth; i++) {
                text = "([{".charAt(kind) + (chance.nextBoolean() ? text + leaf : leaf + text) + ")]}".charAt(kind);
            }
            return text;
        }

        /**
         * Two chains of BRACKETS, ENDS on the one and OPEN WIRES on the other: if their KINDS are
         * unlike, m times 2n and 1 meet, and twice m times n NODES come: near the limits of both.
         */
        private String twoCombs() {
            int m = 1 + chance.nextInt(7);
            int n = Math.max(1, Math.min(14, (60 / m - 1) / 2 + chance.nextInt(3) - 1));
            int kind = chance.nextInt(3);
            String ends = "*";
            for (int i = 0; i < n; i++) {
                ends = "([{".charAt(kind) + (chance.nextBoolean() ? ends + "*" : "*" + ends) + ")]}".charAt(kind);
            }
            String wires = "a";
            for (int i = 0; i < m; i++) {
                int other = chance.nextInt(9) == 0 ? kind : (kind + 1 + chance.nextInt(2)) % 3;
                wires = "([{".charAt(other) + wires + (char) ('b' + i) + ")]}".charAt(other);
            }
            String more = chance.nextInt(3) == 0 ? ",*=*" : "";
            return (chance.nextBoolean() ? ends + "=" + wires : wires + "=" + ends) + more;
        }

        private String net() {
            Arrays.fill(uses, 0);
            ends = chance.nextInt(4);
            StringBuilder text = new StringBuilder();
            int most = 5 + chance.nextInt(75);
            do {
                if (text.length() > 0) {
                    text.append(',');
                }
                int depth = chance.nextInt(5);
                text.append(tree(depth)).append('=').append(tree(chance.nextInt(3) == 0 ? depth : chance.nextInt(5)));
            } while (text.length() < most && chance.nextInt(3) != 0);
            return text.length() > 83 ? net() : text.toString();
        }

        private String tree(int depth) {
            if (depth > 0 && chance.nextInt(6) != 0) {
                int kind = chance.nextInt(3);
                return "([{".charAt(kind) + tree(depth - 1) + tree(depth - 1) + ")]}".charAt(kind);
            }
            int wire = chance.nextInt(8);
            if (uses[wire] < 2 && chance.nextInt(8) >= ends) {
                uses[wire]++;
                return String.valueOf((char) ('a' + wire));
            }
            return "*";
        }

        private String spoilt(String text) {
            int at = chance.nextInt(text.length());
            String signs = "*()[]{}=,abcdefghi Z";
            char sign = signs.charAt(chance.nextInt(signs.length()));
            switch (chance.nextInt(3)) {
                case 0:
                    return text.substring(0, at) + sign + text.substring(at + 1);
                case 1:
                    return text.substring(0, at) + sign + text.substring(at);
                default:
                    return text.substring(0, at) + text.substring(at + 1);
            }
        }

        private String raw() {
            StringBuilder text = new StringBuilder();
            String signs = "*()[]{}=,abcdefgh";
            int length = chance.nextInt(12);
            for (int i = 0; i < length; i++) {
                text.append(signs.charAt(chance.nextInt(signs.length())));
            }
            return text.toString();
        }
    }

    /** A text is no NET behind some place. */
    private static final class NoNet extends RuntimeException {
        private static final long serialVersionUID = 1L;
        final int at;

        NoNet(int at) {
            this.at = at;
        }
    }

    private static final class Reader {
        final String text;
        final Net net = new Net();
        final List<int[]> equal = new ArrayList<>();
        final int[] uses = new int[8];
        int at = 0;

        Reader(String text) {
            this.text = text;
        }

        /** Throws NoNet with the place of the fault; its length, if the text only ends too early. */
        Net read() {
            pair();
            while (at < text.length()) {
                sign(',');
                pair();
            }
            for (int wire = 0; wire < 8; wire++) {
                if (uses[wire] == 1) {
                    net.open.put(wire, wire);
                }
            }
            for (int i = 0; i < equal.size(); i++) {
                int a = equal.get(i)[0];
                int b = equal.get(i)[1];
                net.join(a, b);
                for (int[] later : equal.subList(i + 1, equal.size())) {
                    for (int k = 0; k < 2; k++) {
                        later[k] = later[k] == b ? a : later[k];
                    }
                }
            }
            return net;
        }

        private void sign(char due) {
            if (at >= text.length() || text.charAt(at) != due) {
                throw new NoNet(at);
            }
            at++;
        }

        private void pair() {
            int a = tree();
            sign('=');
            int b = tree();
            equal.add(new int[] {a, b});
        }

        private int tree() {
            if (at >= text.length()) {
                throw new NoNet(at);
            }
            char c = text.charAt(at);
            if (c >= 'a' && c <= 'h') {
                if (++uses[c - 'a'] > 2) {
                    throw new NoNet(at);
                }
                at++;
                return c - 'a';
            }
            int kind = "*([{".indexOf(c);
            if (kind < 0) {
                throw new NoNet(at);
            }
            at++;
            int[] node = new int[] {kind, net.fresh++, -1, -1};
            net.nodes.put(net.nodes.size(), node);
            if (kind > 0) {
                node[2] = tree();
                node[3] = tree();
                sign("*)]}".charAt(kind));
            }
            return node[1];
        }
    }

    /** NODES: KIND, then the names of the WIRES at HEAD, LEFT, RIGHT. */
    private static final class Net {
        final TreeMap<Integer, int[]> nodes = new TreeMap<>();
        final TreeMap<Integer, Integer> open = new TreeMap<>();
        int rings = 0;
        int fresh = 8;
        int[] done = new int[4];

        Net copy() {
            Net net = new Net();
            nodes.forEach((number, node) -> net.nodes.put(number, node.clone()));
            net.open.putAll(open);
            net.rings = rings;
            net.fresh = fresh;
            net.done = done.clone();
            return net;
        }

        void join(int a, int b) {
            if (a == b) {
                rings++;
            }
            for (int[] node : nodes.values()) {
                for (int i = 1; i < 4; i++) {
                    node[i] = node[i] == b ? a : node[i];
                }
            }
            open.replaceAll((wire, name) -> name == b ? a : name);
        }

        /** All PLACES at a WIRE. */
        List<Integer> places(int name) {
            List<Integer> found = new ArrayList<>();
            nodes.forEach((number, node) -> {
                for (int i = 1; i < 4; i++) {
                    if (node[i] == name) {
                        found.add(3 * number + i - 1);
                    }
                }
            });
            open.forEach((wire, is) -> {
                if (is == name) {
                    found.add(900 + wire);
                }
            });
            return found;
        }

        int nameAt(int place) {
            return place >= 900 ? open.get(place - 900) : nodes.get(place / 3)[1 + place % 3];
        }

        int across(int place) {
            List<Integer> both = places(nameAt(place));
            if (both.size() != 2) {
                throw new IllegalStateException("a wire has " + both.size() + " ends");
            }
            return both.get(0) == place ? both.get(1) : both.get(0);
        }

        int partner(int number) {
            int other = across(3 * number);
            return other < 900 && other % 3 == 0 ? other / 3 : -1;
        }

        List<Integer> meetings() {
            Map<Integer, Integer> byHead = new HashMap<>();
            List<Integer> firsts = new ArrayList<>();
            nodes.forEach((number, node) -> {
                Integer other = byHead.putIfAbsent(node[1], number);
                if (other != null) {
                    firsts.add(other);
                }
            });
            firsts.sort(null);
            return firsts;
        }

        void add(int kind, int head, int left, int right) {
            int number = 0;
            while (nodes.containsKey(number)) {
                number++;
            }
            nodes.put(number, new int[] {kind, head, left, right});
        }

        int sort(int first) {
            int a = nodes.get(first)[0];
            int b = nodes.get(partner(first))[0];
            return a == b ? 1 : a == 0 || b == 0 ? 3 : 2;
        }

        int meet(int first) {
            int sort = sort(first);
            int second = partner(first);
            int[] x = nodes.get(first);
            int[] y = nodes.get(second);
            if (sort == 1 && x[0] > 0) {
                // Names change while x and y are still there, so the second joining sees the first.
                boolean cross = x[0] == 1;
                join(x[2], y[cross ? 3 : 2]);
                join(x[3], y[cross ? 2 : 3]);
            }
            nodes.remove(first);
            nodes.remove(second);
            if (sort == 3) {
                int[] bracket = x[0] == 0 ? y : x;
                add(0, bracket[2], -1, -1);
                add(0, bracket[3], -1, -1);
            } else if (sort == 2) {
                int ll = fresh++;
                int rl = fresh++;
                int lr = fresh++;
                int rr = fresh++;
                add(x[0], y[2], ll, rl);
                add(x[0], y[3], lr, rr);
                add(y[0], x[2], ll, lr);
                add(y[0], x[3], rl, rr);
            }
            done[0]++;
            done[sort]++;
            return sort;
        }

        List<Integer> reading() {
            List<Integer> signs = new ArrayList<>();
            Map<Integer, Integer> told = new HashMap<>();
            for (int wire : open.keySet()) {
                tell(900 + wire, signs, told);
                signs.add((int) ';');
            }
            return signs;
        }

        private void tell(int from, List<Integer> signs, Map<Integer, Integer> told) {
            int other = across(from);
            if (other >= 900 || other % 3 != 0) {
                int name = nameAt(from);
                told.putIfAbsent(name, 97 + told.size());
                signs.add(told.get(name));
                return;
            }
            int kind = nodes.get(other / 3)[0];
            signs.add((int) "*([{".charAt(kind));
            if (kind > 0) {
                tell(other + 1, signs, told);
                tell(other + 2, signs, told);
                signs.add((int) ")]}".charAt(kind - 1));
            }
        }
    }

    private static final class Model {
        private static final int NONE = -1, UNKNOWN = -101, OUTSIDE = -102, STATE = -103, FULL = -104;
        final Random order;
        String page = "";
        Net net = new Net();
        Net imageNet = null;
        List<int[]> seen = new ArrayList<>();
        List<int[]> imageSeen = new ArrayList<>();
        boolean hasNet = false;
        int timesRead = 0;

        Model(Random order) {
            this.order = order;
        }

        int letter(int code) {
            if (code < 32 || code > 126) return OUTSIDE;
            if (page.length() == 80) return FULL;
            page += (char) code;
            return page.length();
        }

        int blank() {
            int had = page.length();
            page = "";
            return had;
        }

        int fault() {
            try {
                new Reader(page).read();
                return page.length();
            } catch (NoNet none) {
                return none.at;
            }
        }

        int net() {
            Net read;
            try {
                read = new Reader(page).read();
            } catch (NoNet none) {
                return STATE;
            }
            if (read.nodes.size() > 30) return STATE;
            net = read;
            imageNet = null;
            seen = new ArrayList<>();
            page = "";
            hasNet = true;
            timesRead++;
            return net.nodes.size();
        }

        int kindOf(int node) {
            return net.nodes.containsKey(node) ? net.nodes.get(node)[0] : -1;
        }

        int node(int node, int what) {
            int kind = kindOf(node);
            if (kind < 0) return UNKNOWN;
            if (what < 0 || what > 6) return OUTSIDE;
            if (what == 0) return kind;
            if (what == 1) return net.across(3 * node);
            if (what == 4) return net.partner(node);
            if (kind == 0) return NONE;
            if (what < 4) return net.across(3 * node + what - 1);
            int bits = 0;
            for (int k = 1; k <= 3; k++) {
                int[] would = wouldBe(node, k);
                if (seen.stream().allMatch(s -> s[0] != node || would[s[1]] == s[2])) bits += 1 << k;
            }
            return what == 5 ? bits : ask(node, bits);
        }

        private int ask(int node, int bits) {
            int best = NONE;
            int fewest = 4;
            for (int what = 0; what < 4; what++) {
                Map<Integer, Integer> groups = new HashMap<>();
                for (int k = 1; k <= 3; k++) {
                    if ((bits & 1 << k) != 0) groups.merge(wouldBe(node, k)[what], 1, Integer::sum);
                }
                int worst = groups.values().stream().mapToInt(n -> n).max().orElse(4);
                if (worst < fewest) {
                    fewest = worst;
                    best = what;
                }
            }
            return best;
        }

        int[] wouldBe(int node, int kind) {
            Net other = net.copy();
            other.nodes.get(node)[0] = kind;
            Net end = end(other);
            return end == null ? new int[] {NONE, NONE, NONE, NONE} : end.done;
        }

        /** The ENDING by some order, told by a chance; null: none. Its done is what was done to it. */
        Net end(Net from) {
            Net end = from.copy();
            end.done = new int[4];
            for (int many = 0; many <= 60; many++) {
                List<Integer> all = end.meetings();
                if (all.isEmpty()) return end;
                end.meet(all.get(order.nextInt(all.size())));
            }
            return null;
        }

        private int rounds(Net from) {
            Net end = from.copy();
            int rounds = 0;
            for (List<Integer> all = end.meetings(); !all.isEmpty(); all = end.meetings()) {
                all.forEach(end::meet);
                rounds++;
            }
            return rounds;
        }

        int as(int node, int what) {
            int kind = kindOf(node);
            if (kind < 0) return UNKNOWN;
            if (what < 0 || what > 4) return OUTSIDE;
            boolean is = what == 0 || what == 1 && kind == 0 || what == 2 && kind != 0
                || what == 3 && (kind == 2 || kind == 3) || what == 4 && kind == 3;
            return is ? node : NONE;
        }

        int open(int wire) {
            return net.open.containsKey(wire) ? net.across(900 + wire) : UNKNOWN;
        }

        int meetings(int what) {
            if (what != 0 && (what < 10 || what > 39)) return OUTSIDE;
            if (!hasNet) return STATE;
            List<Integer> all = net.meetings();
            return what == 0 ? all.size() : what - 10 < all.size() ? all.get(what - 10) : NONE;
        }

        private boolean isFullFor(int first) {
            return net.sort(first) == 2 && net.nodes.size() - 2 + 4 > 60;
        }

        int meet(int meeting) {
            List<Integer> all = net.meetings();
            if (meeting < 0 || meeting >= all.size()) return UNKNOWN;
            return isFullFor(all.get(meeting)) ? FULL : net.meet(all.get(meeting));
        }

        int run(int many) {
            if (many < 1 || many > 60) return OUTSIDE;
            if (!hasNet) return STATE;
            int done = 0;
            while (done < many && !net.meetings().isEmpty() && !isFullFor(net.meetings().get(0))) {
                net.meet(net.meetings().get(0));
                done++;
            }
            return done;
        }

        int join(int a, int b) {
            if (!net.open.containsKey(a) || !net.open.containsKey(b) || a == b) return UNKNOWN;
            net.join(net.open.get(a), net.open.get(b));
            net.open.remove(a);
            net.open.remove(b);
            return net.rings;
        }

        int stop(int wire) {
            if (!net.open.containsKey(wire)) return UNKNOWN;
            if (net.nodes.size() >= 60) return FULL;
            List<Integer> before = new ArrayList<>(net.nodes.keySet());
            net.add(0, net.open.remove(wire), -1, -1);
            List<Integer> after = new ArrayList<>(net.nodes.keySet());
            after.removeAll(before);
            return after.get(0);
        }

        int change(int node, int kind) {
            int old = kindOf(node);
            if (old < 1) return UNKNOWN;
            if (kind < 1 || kind > 3) return OUTSIDE;
            net.nodes.get(node)[0] = kind;
            return old;
        }

        int flip(int node) {
            if (kindOf(node) < 1) return UNKNOWN;
            int[] is = net.nodes.get(node);
            int left = is[2];
            is[2] = is[3];
            is[3] = left;
            return net.across(3 * node + 1);
        }

        int ending(int what) {
            if (what < 0 || what > 6) return OUTSIDE;
            if (!hasNet) return STATE;
            Net end = end(net);
            if (end == null) return NONE;
            return what < 4 ? end.done[what] : what == 4 ? rounds(net) : what == 5 ? end.nodes.size() : end.rings;
        }

        private int signOf(Net of, int sign) {
            List<Integer> signs = of.reading();
            return sign < signs.size() ? signs.get(sign) : NONE;
        }

        int reading(int sign) {
            if (sign < 0 || sign > 999) return OUTSIDE;
            return hasNet ? signOf(net, sign) : STATE;
        }

        int endReading(int sign) {
            if (sign < 0 || sign > 999) return OUTSIDE;
            if (!hasNet) return STATE;
            Net end = end(net);
            return end == null ? -2 : signOf(end, sign);
        }

        int same() {
            if (imageNet == null) return STATE;
            Net a = end(net);
            Net b = end(imageNet);
            if (a == null || b == null) return -2;
            return a.rings == b.rings && a.open.keySet().equals(b.open.keySet()) && a.reading().equals(b.reading()) ? 1 : 0;
        }

        int see(int node, int what, int much) {
            if (kindOf(node) < 1) return UNKNOWN;
            if (what < 0 || what > 3 || much < -1 || much > 60) return OUTSIDE;
            if (seen.size() == 6) return FULL;
            seen.add(new int[] {node, what, much});
            return seen.size();
        }

        int forget() {
            int had = seen.size();
            seen = new ArrayList<>();
            return had;
        }

        int runs(int many, int seed, int what) {
            if (many < 1 || many > 60 || seed < 0 || what < 0 || what > 2) return OUTSIDE;
            if (!hasNet) return STATE;
            Net tried = net.copy();
            long drawn = seed;
            int most = tried.nodes.size();
            int done = 0;
            while (done < many && !tried.meetings().isEmpty()) {
                List<Integer> all = tried.meetings();
                drawn = (1103515245L * drawn + 12345L) % (1L << 31);
                tried.meet(all.get((int) (drawn / 65536 % all.size())));
                most = Math.max(most, tried.nodes.size());
                done++;
            }
            return what == 0 ? done : what == 1 ? most : (int) drawn;
        }

        int image() {
            if (!hasNet) return STATE;
            imageNet = net.copy();
            imageSeen = new ArrayList<>(seen);
            return net.done[0];
        }

        int restore() {
            if (imageNet == null) return STATE;
            net = imageNet.copy();
            seen = new ArrayList<>(imageSeen);
            return net.done[0];
        }

        int count(int what) {
            switch (what) {
                case 0: return net.nodes.size();
                case 1: case 2: case 3: case 4:
                    return (int) net.nodes.values().stream().filter(node -> node[0] == what - 1).count();
                case 5: return net.open.size();
                case 6: return net.rings;
                case 7: return net.meetings().size();
                case 8: case 9: case 10: case 11: return net.done[what - 8];
                case 12: return seen.size();
                case 13: return page.length();
                case 14: return timesRead;
                default: return OUTSIDE;
            }
        }

        long digest() {
            List<Integer> all = new ArrayList<>();
            for (int node : net.nodes.keySet()) {
                all.add(node);
                for (int what = 0; what <= 4; what++) all.add(node(node, what));
            }
            for (int wire : net.open.keySet()) {
                all.add(wire);
                all.add(open(wire));
            }
            if (hasNet) {
                all.addAll(net.reading());
                for (int what = 0; what <= 6; what++) all.add(ending(what));
                Net end = end(net);
                if (end != null) all.addAll(end.reading());
            }
            for (char c : page.toCharArray()) all.add((int) c);
            for (int what = 0; what <= 14; what++) all.add(count(what));
            long h = 1153;
            for (int each : all) h = 31 * h + each;
            return h;
        }
    }
}
