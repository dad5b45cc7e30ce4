import java.math.BigInteger;
import java.util.ArrayList;
import java.util.Arrays;
import java.util.HashMap;
import java.util.List;
import java.util.Map;
import java.util.Random;
import java.util.TreeMap;

/**
 * What the document says of one call by others: an ENDING is what comes if all MEETINGS are done, KINDS
 * are those with which all that is SEEN is so, and the like. Each of these laws is looked at on many
 * nets that came by chance, through the face alone: no answer is reckoned from another picture of a net.
 */
public final class LawsOfTheDocument {
    private static final int STATES = 4000;
    private static final int SHOWN = 20;
    private static final int ALIKE = 1, COPYING = 2, EATING = 3;
    private static final int NONE = HeadsMeet.NONE, FULL = HeadsMeet.FULL, STATE = HeadsMeet.STATE;
    private static final int NO_ENDING = -2;
    private static final BigInteger FACTOR = BigInteger.valueOf(1103515245);
    private static final BigInteger MORE = BigInteger.valueOf(12345);
    private static final BigInteger WHOLE = BigInteger.TWO.pow(31);

    private static final Map<String, Integer> looked = new TreeMap<>();
    private static int wrong = 0;

    /** Each law must have been looked at so often at least, or the nets were too much alike. */
    private static final Map<String, Integer> DUE = new HashMap<>();

    static {
        DUE.put("any order: as many of each sort", 1000);
        DUE.put("any order: no ENDING", 20);
        DUE.put("any order: what is left", 1000);
        DUE.put("ROUNDS", 1000);
        DUE.put("run() is the first one again and again", 1000);
        DUE.put("run() stops when FULL", 5);
        DUE.put("RUNS by draws", 1000);
        DUE.put("KINDS", 1000);
        DUE.put("KINDS none", 50);
        DUE.put("ASK", 1000);
        DUE.put("SAME", 1000);
        DUE.put("SAME, and is", 100);
        DUE.put("SAME, no ENDING", 20);
        DUE.put("digest()", 1000);
        DUE.put("WIRES have two ends", 1000);
        DUE.put("a READING typed is read so", 300);
        DUE.put("there and back", 1000);
    }

    public static void main(String[] args) {
        for (int number = 0; number < STATES && wrong < SHOWN; number++) {
            State state = new State(number);
            anyOrder(state);
            rounds(state);
            runIsTheFirstOne(state);
            runsByDraws(state);
            kindsAndAsk(state);
            same(state);
            digest(state);
            wiresHaveTwoEnds(state);
            aReadingTyped(state);
            thereAndBack(state);
        }
        if (wrong == 0) {
            DUE.forEach((law, least) -> {
                if (looked.getOrDefault(law, 0) < least) {
                    wrong++;
                    System.out.println(law + ": looked at " + looked.getOrDefault(law, 0) + " times, due is " + least);
                }
            });
        }
        if (args.length > 0) {
            System.out.println(looked);
        }
        System.out.println(STATES + " nets, " + looked.values().stream().mapToInt(Integer::intValue).sum()
            + " times a law was looked at, " + wrong + " not as due");
        if (wrong != 0) {
            System.exit(1);
        }
    }

    private static void look(String law) {
        looked.merge(law, 1, Integer::sum);
    }

    private static void due(State state, String law, Object got, Object want) {
        if (!got.equals(want)) {
            wrong++;
            System.out.println(law + ": got " + got + ", due is " + want + ", for " + state);
        }
    }

    // ---- nets by chance

    /** How an object was brought where it is, so that as many like it can be made as are wanted. */
    private static final class State {
        private final Random chance;
        private final String text;
        private final List<int[]> calls = new ArrayList<>();

        State(int number) {
            chance = new Random(31L * number + 7);
            text = new Text(chance).next();
            int many = chance.nextInt(10);
            for (int i = 0; i < many; i++) {
                calls.add(callByChance());
            }
        }

        private int[] callByChance() {
            Tried x = make();
            int node = nodeByChance(x);
            switch (chance.nextInt(9)) {
                case 0:
                    return new int[] {0, chance.nextInt(Math.max(1, x.meetings(0)))};
                case 1:
                    return new int[] {1, 1 + chance.nextInt(chance.nextInt(4) == 0 ? 60 : 4)};
                case 2:
                    return new int[] {2, chance.nextInt(8), chance.nextInt(8)};
                case 3:
                    return new int[] {3, chance.nextInt(8)};
                case 4:
                    return new int[] {4, node, 1 + chance.nextInt(3)};
                case 5:
                    return new int[] {5, node};
                case 6:
                    return new int[] {7};
                default:
                    return sightByChance(node);
            }
        }

        /** Mostly what is so, for a KIND that it may be of. */
        private int[] sightByChance(int node) {
            int what = chance.nextInt(4);
            Tried x = make();
            x.change(node, 1 + chance.nextInt(3));
            int much = chance.nextInt(5) == 0 ? chance.nextInt(6) - 1 : x.ending(what);
            return new int[] {6, node, what, much};
        }

        private int nodeByChance(Tried x) {
            List<Integer> nodes = bracketsOf(x);
            return nodes.isEmpty() ? 0 : nodes.get(chance.nextInt(nodes.size()));
        }

        Tried make() {
            Tried x = Tried.of(text);
            x.image();
            for (int[] call : calls) {
                doCall(x, call);
            }
            return x;
        }

        private static void doCall(Tried x, int[] call) {
            switch (call[0]) {
                case 0 -> x.meet(call[1]);
                case 1 -> x.run(call[1]);
                case 2 -> x.join(call[1], call[2]);
                case 3 -> x.stop(call[1]);
                case 4 -> x.change(call[1], call[2]);
                case 5 -> x.flip(call[1]);
                case 6 -> x.see(call[1], call[2], call[3]);
                default -> x.image();
            }
        }

        /** What is SEEN of a NODE: rows of what and how much. */
        List<int[]> seenOf(int node) {
            List<int[]> seen = new ArrayList<>();
            int many = 0;
            for (int[] call : calls) {
                // The BRACKET may have been none when it was to be SEEN: then it was not.
                if (call[0] == 6 && many < 6 && wasBracketBefore(call)) {
                    many++;
                    if (call[1] == node) {
                        seen.add(new int[] {call[2], call[3]});
                    }
                }
            }
            return seen;
        }

        private boolean wasBracketBefore(int[] sight) {
            Tried x = Tried.of(text);
            x.image();
            for (int[] call : calls) {
                if (call == sight) {
                    break;
                }
                doCall(x, call);
            }
            return x.as(sight[1], 2) == sight[1];
        }

        @Override
        public String toString() {
            StringBuilder told = new StringBuilder(text);
            calls.forEach(call -> told.append(' ').append(Arrays.toString(call)));
            return told.toString();
        }
    }

    /** A text of a NET. */
    private static final class Text {
        private final Random chance;
        private final StringBuilder text = new StringBuilder();
        private final int[] uses = new int[8];
        private int nodes;

        Text(Random chance) {
            this.chance = chance;
        }

        String next() {
            int pairs = 1 + chance.nextInt(3);
            for (int i = 0; i < pairs; i++) {
                text.append(i == 0 ? "" : ",");
                tree(1 + chance.nextInt(4));
                text.append('=');
                tree(1 + chance.nextInt(4));
            }
            return text.length() <= 80 && nodes <= 30 ? text.toString() : new Text(chance).next();
        }

        private void tree(int depth) {
            if (depth == 0 || chance.nextInt(4) == 0) {
                leaf();
                return;
            }
            nodes++;
            int kind = chance.nextInt(3);
            text.append("([{".charAt(kind));
            tree(depth - 1);
            tree(depth - 1);
            text.append(")]}".charAt(kind));
        }

        private void leaf() {
            int letter = chance.nextInt(10);
            for (int i = 0; i < 8 && letter < 8 && uses[letter] == 2; i++) {
                letter = (letter + 1) % 8;
            }
            if (letter < 8 && uses[letter] < 2) {
                uses[letter]++;
                text.append((char) ('a' + letter));
            } else {
                nodes++;
                text.append('*');
            }
        }
    }

    // ---- what is told, gathered

    private static List<Integer> bracketsOf(Tried x) {
        List<Integer> nodes = new ArrayList<>();
        for (int node = 0; node < 60; node++) {
            if (x.as(node, 2) == node) {
                nodes.add(node);
            }
        }
        return nodes;
    }

    private interface Sign {
        int at(Tried x, int sign);
    }

    /** By as many objects as it takes, as each has its 512 calls. */
    private static List<Integer> signs(State state, Sign sign) {
        List<Integer> signs = new ArrayList<>();
        Tried x = state.make();
        for (int i = 0; i < 1000; i++) {
            if (x.calls() == Tried.MOST_CALLS) {
                x = state.make();
            }
            int code = sign.at(x, i);
            if (code < 0) {
                break;
            }
            signs.add(code);
        }
        return signs;
    }

    private static List<Integer> signsOf(Tried x, Sign sign) {
        List<Integer> signs = new ArrayList<>();
        for (int i = 0; i < 1000 && sign.at(x, i) >= 0; i++) {
            signs.add(sign.at(x, i));
        }
        return signs;
    }

    private static List<Integer> openWires(Tried x) {
        List<Integer> wires = new ArrayList<>();
        for (int wire = 0; wire < 8; wire++) {
            if (x.open(wire) >= 0) {
                wires.add(wire);
            }
        }
        return wires;
    }

    // ---- laws

    /** In whatever order MEETINGS are done, as many are done, of each sort, and the same is left. */
    private static void anyOrder(State state) {
        Tried told = state.make();
        int[] ending = new int[7];
        for (int what = 0; what < 7; what++) {
            ending[what] = told.ending(what);
        }
        Tried x = state.make();
        int[] sorts = new int[4];
        int many = x.meetings(0);
        while (many > 0 && sorts[0] <= 60) {
            int sort = x.meet(state.chance.nextInt(many));
            if (sort == FULL) {
                return;
            }
            sorts[sort]++;
            sorts[0]++;
            many = x.meetings(0);
        }
        if (sorts[0] > 60) {
            look("any order: no ENDING");
            due(state, "no ENDING", ending, new int[] {NONE, NONE, NONE, NONE, NONE, NONE, NONE});
            due(state, "no READING of an ENDING", told.endReading(0), NO_ENDING);
            return;
        }
        look("any order: as many of each sort");
        due(state, "MEETINGS", ending[0], sorts[0]);
        due(state, "ALIKE", ending[1], sorts[ALIKE]);
        due(state, "COPYING", ending[2], sorts[COPYING]);
        due(state, "EATING", ending[3], sorts[EATING]);
        due(state, "NODES left", ending[5], x.count(0));
        due(state, "RINGS then", ending[6], x.count(6));
        List<Integer> want = signs(state, Tried::endReading);
        if (x.calls() + want.size() < Tried.MOST_CALLS) {
            look("any order: what is left");
            List<Integer> got = new ArrayList<>();
            for (int i = 0; i < want.size(); i++) {
                got.add(x.reading(i));
            }
            due(state, "what is left", got, want);
            due(state, "no more is left", x.reading(want.size()), NONE);
        }
    }

    private static void due(State state, String law, int[] got, int[] want) {
        due(state, law, Arrays.toString(got), Arrays.toString(want));
    }

    /** All MEETINGS that there are at once, again and again. */
    private static void rounds(State state) {
        Tried x = state.make();
        int want = x.ending(4);
        if (want == NONE) {
            return;
        }
        int rounds = 0;
        while (x.meetings(0) > 0) {
            rounds++;
            for (int first : meetingsOf(x)) {
                if (x.calls() > 400 || x.meet(meetingsOf(x).indexOf(first)) == FULL) {
                    return;
                }
            }
        }
        look("ROUNDS");
        due(state, "ROUNDS", want, rounds);
    }

    private static List<Integer> meetingsOf(Tried x) {
        List<Integer> firsts = new ArrayList<>();
        for (int i = 0; i < 30 && x.meetings(10 + i) != NONE; i++) {
            firsts.add(x.meetings(10 + i));
        }
        return firsts;
    }

    private static void runIsTheFirstOne(State state) {
        int many = 1 + state.chance.nextInt(60);
        Tried x = state.make();
        Tried y = state.make();
        int got = x.run(many);
        int done = 0;
        boolean full = false;
        while (done < many && y.meetings(0) > 0 && !full) {
            full = y.meet(0) == FULL;
            done += full ? 0 : 1;
        }
        look("run() is the first one again and again");
        if (full) {
            look("run() stops when FULL");
        }
        due(state, "run(" + many + ")", got, done);
        due(state, "digest() behind run(" + many + ")", x.digest(), y.digest());
    }

    private static void runsByDraws(State state) {
        int many = 1 + state.chance.nextInt(60);
        int seed = state.chance.nextInt(Integer.MAX_VALUE);
        Tried told = state.make();
        Tried x = state.make();
        BigInteger drawn = BigInteger.valueOf(seed);
        int most = x.count(0);
        int done = 0;
        for (int choices = x.meetings(0); done < many && choices > 0; choices = x.meetings(0)) {
            drawn = drawn.multiply(FACTOR).add(MORE).mod(WHOLE);
            int draw = drawn.divide(BigInteger.valueOf(65536)).mod(BigInteger.valueOf(choices)).intValue();
            if (x.meet(draw) == FULL) {
                return;
            }
            done++;
            most = Math.max(most, x.count(0));
        }
        look("RUNS by draws");
        String name = "runs(" + many + ", " + seed + ", ";
        due(state, name + "0)", told.runs(many, seed, 0), done);
        due(state, name + "1)", told.runs(many, seed, 1), most);
        due(state, name + "2)", told.runs(many, seed, 2), drawn.intValueExact());
    }

    /** By changing it to each KIND, and asking for the ENDING then. */
    private static void kindsAndAsk(State state) {
        List<Integer> nodes = bracketsOf(state.make());
        for (int i = 0; i < 3 && !nodes.isEmpty(); i++) {
            int node = nodes.remove(state.chance.nextInt(nodes.size()));
            int[][] much = new int[4][4];
            for (int kind = 1; kind <= 3; kind++) {
                Tried x = state.make();
                x.change(node, kind);
                for (int what = 0; what < 4; what++) {
                    much[kind][what] = x.ending(what);
                }
            }
            List<Integer> kinds = kindsLeft(state.seenOf(node), much);
            int bits = 0;
            for (int kind : kinds) {
                bits += 1 << kind;
            }
            look("KINDS");
            if (bits == 0) {
                look("KINDS none");
            }
            due(state, "node(" + node + ", 5)", state.make().node(node, 5), bits);
            look("ASK");
            due(state, "node(" + node + ", 6)", state.make().node(node, 6), bestQuestion(kinds, much));
        }
    }

    private static List<Integer> kindsLeft(List<int[]> seen, int[][] much) {
        List<Integer> kinds = new ArrayList<>(List.of(1, 2, 3));
        kinds.removeIf(kind -> seen.stream().anyMatch(sight -> much[kind][sight[0]] != sight[1]));
        return kinds;
    }

    private static int bestQuestion(List<Integer> kinds, int[][] much) {
        int best = NONE;
        int leftByBest = 0;
        for (int what = 0; what < 4 && !kinds.isEmpty(); what++) {
            Map<Integer, Integer> left = new HashMap<>();
            for (int kind : kinds) {
                left.merge(much[kind][what], 1, Integer::sum);
            }
            int most = left.values().stream().max(Integer::compare).orElse(0);
            if (best == NONE || most < leftByBest) {
                best = what;
                leftByBest = most;
            }
        }
        return best;
    }

    /** What the IMAGE comes to is told behind restore(). */
    private static void same(State state) {
        Tried x = state.make();
        int got = x.same();
        int rings = x.ending(6);
        List<Integer> wires = openWires(x);
        List<Integer> signs = signs(state, Tried::endReading);
        x.restore();
        int otherRings = x.ending(6);
        List<Integer> otherWires = openWires(x);
        List<Integer> otherSigns = signs(state, (y, sign) -> {
            y.restore();
            return y.endReading(sign);
        });
        look("SAME");
        if (rings == NONE || otherRings == NONE) {
            look("SAME, no ENDING");
            due(state, "same()", got, NO_ENDING);
            return;
        }
        boolean is = rings == otherRings && wires.equals(otherWires) && signs.equals(otherSigns);
        if (is) {
            look("SAME, and is");
        }
        due(state, "same()", got, is ? 1 : 0);
    }

    private static void digest(State state) {
        long hash = 1153;
        Tried x = state.make();
        for (int node = 0; node < 60; node++) {
            if (x.as(node, 0) == node) {
                hash = 31 * hash + node;
                for (int what = 0; what <= 4; what++) {
                    hash = 31 * hash + x.node(node, what);
                }
            }
        }
        x = state.make();
        for (int wire : openWires(x)) {
            hash = 31 * hash + wire;
            hash = 31 * hash + x.open(wire);
        }
        hash = hashed(hash, signs(state, Tried::reading));
        for (int what = 0; what <= 6; what++) {
            hash = 31 * hash + x.ending(what);
        }
        hash = hashed(hash, signs(state, Tried::endReading));
        String page = "(a=,*~ ".substring(state.chance.nextInt(8));
        x.type(page);
        for (char letter : page.toCharArray()) {
            hash = 31 * hash + letter;
        }
        for (int what = 0; what <= 14; what++) {
            hash = 31 * hash + x.count(what);
        }
        look("digest()");
        due(state, "digest()", x.digest(), hash);
    }

    private static long hashed(long start, List<Integer> numbers) {
        long hash = start;
        for (int number : numbers) {
            hash = 31 * hash + number;
        }
        return hash;
    }

    /** Each PLACE is at the other end of the WIRE at its other end; counts are of what there is. */
    private static void wiresHaveTwoEnds(State state) {
        Map<Integer, Integer> across = new HashMap<>();
        int[] kinds = new int[4];
        Tried x = state.make();
        for (int node = 0; node < 60; node++) {
            if (x.as(node, 0) == node) {
                int kind = x.node(node, 0);
                kinds[kind]++;
                for (int side = 0; side < (kind == 0 ? 1 : 3); side++) {
                    across.put(3 * node + side, x.node(node, 1 + side));
                }
            }
        }
        x = state.make();
        for (int wire : openWires(x)) {
            across.put(900 + wire, x.open(wire));
        }
        look("WIRES have two ends");
        across.forEach((place, other) -> due(state, "across from " + place, String.valueOf(across.get(other)), String.valueOf(place)));
        for (int kind = 0; kind < 4; kind++) {
            due(state, "count(" + (1 + kind) + ")", x.count(1 + kind), kinds[kind]);
        }
        due(state, "count(0)", x.count(0), kinds[0] + kinds[1] + kinds[2] + kinds[3]);
        due(state, "count(7)", x.count(7), x.meetings(0));
        due(state, "count(8)", x.count(8), x.count(9) + x.count(10) + x.count(11));
        due(state, "count(5)", x.count(5), openWires(x).size());
    }

    /** A READING is told as in a text: typed, each TREE to its OPEN WIRE, it is the READING again. */
    private static void aReadingTyped(State state) {
        List<Integer> wires = openWires(state.make());
        List<Integer> free = new ArrayList<>(List.of(0, 1, 2, 3, 4, 5, 6, 7));
        free.removeAll(wires);
        List<Integer> signs = signs(state, Tried::reading);
        Map<Integer, Integer> names = new HashMap<>();
        Map<Integer, Integer> times = new HashMap<>();
        StringBuilder text = new StringBuilder();
        int wire = 0;
        boolean first = true;
        for (int sign : signs) {
            if (first) {
                text.append(wire == 0 ? "" : ",").append((char) ('a' + wires.get(wire))).append('=');
                wire++;
            }
            first = sign == ';';
            boolean isName = sign >= 97 && "{}".indexOf(sign) < 0;
            if (isName) {
                times.merge(sign, 1, Integer::sum);
                if (!names.containsKey(sign) && names.size() == free.size()) {
                    return;
                }
                names.putIfAbsent(sign, names.size() < free.size() ? free.get(names.size()) : 0);
            }
            text.append(first ? "" : String.valueOf((char) (isName ? 'a' + names.get(sign) : sign)));
        }
        // A WIRE that is told once goes on where no TREE comes to.
        if (times.containsValue(1) || wires.isEmpty() || text.length() > 80) {
            return;
        }
        Tried x = Tried.typed(text.toString());
        due(state, "fault() of " + text, x.fault(), text.length());
        if (x.net() == STATE) {
            due(state, "more than 30 NODES", text.chars().filter(c -> "*([{".indexOf(c) >= 0).count() > 30, true);
            return;
        }
        look("a READING typed is read so");
        due(state, "the READING of " + text, signsOf(x, Tried::reading), signs);
    }

    /** What is done and undone leaves all as it was. */
    private static void thereAndBack(State state) {
        Tried x = state.make();
        List<Integer> nodes = bracketsOf(x);
        long digest = x.digest();
        look("there and back");
        if (!nodes.isEmpty()) {
            int node = nodes.get(state.chance.nextInt(nodes.size()));
            int left = x.node(node, 2);
            x.flip(node);
            int told = x.flip(node);
            due(state, "flip(" + node + ") twice", told, left);
            due(state, "digest() behind flip() twice", x.digest(), digest);
            int kind = x.change(node, 1 + state.chance.nextInt(3));
            x.change(node, kind);
            due(state, "digest() behind change() twice", x.digest(), digest);
        }
        int done = x.image();
        x.run(20);
        x.stop(state.chance.nextInt(8));
        x.join(state.chance.nextInt(8), state.chance.nextInt(8));
        x.forget();
        due(state, "restore()", x.restore(), done);
        due(state, "digest() behind restore()", x.digest(), digest);
    }
}
