import java.util.Arrays;

/**
 * Nets of brackets and ends whose heads meet. The document ../shared/DOC.md says what each call
 * answers; the words in capitals below are its words.
 */
public final class HeadsMeet {
    public static final int NONE = -1, UNKNOWN = -101, OUTSIDE = -102, STATE = -103, FULL = -104;

    private static final int NO_ENDING = -2;
    private static final int MOST_LETTERS = 80;
    private static final int MOST_READ_NODES = 30;
    private static final int MOST_NODES = 60;
    private static final int MOST_MEETINGS = 60;
    // 60 MEETINGS from 60 NODES, each of which adds two at most.
    private static final int MOST_TRIAL_NODES = MOST_NODES + 2 * MOST_MEETINGS;
    private static final int MOST_SEEN = 6;
    private static final int MOST_SIGN = 999;
    // Three signs for each BRACKET, and two for each OPEN WIRE, are the most a READING can have.
    private static final int MOST_SIGNS = 3 * MOST_TRIAL_NODES + 16;
    // Far above what the longest way through a TREE needs.
    private static final int MOST_STEPS = 2000;

    private static final int OPEN_WIRES = 8;
    private static final int FIRST_OPEN_PLACE = 900;
    private static final int FIRST_LISTED = 10, LAST_LISTED = 39;

    private static final int FREE = -1, END = 0, ROUND = 1, SQUARE = 2, CURLED = 3;
    private static final int HEAD = 0, LEFT = 1, RIGHT = 2;
    private static final int IN_ALL = 0, ALIKE = 1, COPYING = 2, EATING = 3, SORTS = 4;

    private static final String OPENING = "*([{";
    private static final String CLOSING = "*)]}";

    private final Page page = new Page();
    private final Draft draft = new Draft();
    private final Graph now = new Graph(MOST_NODES);
    private final Graph kept = new Graph(MOST_NODES);
    // One net for all that is only tried, so that no call makes new rows.
    private final Graph trial = new Graph(MOST_TRIAL_NODES);
    private final Sightings seenNow = new Sightings();
    private final Sightings seenKept = new Sightings();
    private final Signs signs = new Signs();
    private final Signs otherSigns = new Signs();
    private final Answers answers = new Answers();
    private boolean hasNet;
    private boolean hasImage;
    private int timesRead;

    public HeadsMeet() {
    }

    // ---- the net

    public int letter(int code) {
        if (code < 32 || code > 126) {
            return OUTSIDE;
        }
        return page.add(code) ? page.size() : FULL;
    }

    public int blank() {
        return page.clear();
    }

    public int fault() {
        return draft.drawFrom(page, trial);
    }

    public int net() {
        int good = draft.drawFrom(page, trial);
        if (good < page.size() || !draft.isWhole() || trial.nodes() > MOST_READ_NODES) {
            return STATE;
        }
        draft.closeWires(trial);
        now.copyFrom(trial);
        seenNow.clear();
        page.clear();
        hasNet = true;
        hasImage = false;
        timesRead++;
        return now.nodes();
    }

    public int node(int node, int what) {
        int kind = now.kindOf(node);
        if (kind == FREE) {
            return UNKNOWN;
        }
        if (what < 0 || what > 6) {
            return OUTSIDE;
        }
        if (what <= 4) {
            return toldOfNode(node, what);
        }
        if (kind == END) {
            return NONE;
        }
        int kinds = kindsLeft(node);
        return what == 5 ? kinds : answers.bestQuestion(kinds);
    }

    public int as(int node, int what) {
        int kind = now.kindOf(node);
        if (kind == FREE) {
            return UNKNOWN;
        }
        switch (what) {
            case 0:
                return node;
            case 1:
                return kind == END ? node : NONE;
            case 2:
                return kind >= ROUND ? node : NONE;
            case 3:
                return kind >= SQUARE ? node : NONE;
            case 4:
                return kind == CURLED ? node : NONE;
            default:
                return OUTSIDE;
        }
    }

    public int open(int wire) {
        return now.isOpen(wire) ? now.toldAcross(wire) : UNKNOWN;
    }

    // ---- meetings

    public int meetings(int what) {
        boolean listed = what >= FIRST_LISTED && what <= LAST_LISTED;
        if (what != 0 && !listed) {
            return OUTSIDE;
        }
        if (!hasNet) {
            return STATE;
        }
        int many = now.listMeetings();
        return listed ? now.listedAt(what - FIRST_LISTED) : many;
    }

    public int meet(int meeting) {
        now.listMeetings();
        int first = now.listedAt(meeting);
        if (first == NONE) {
            return UNKNOWN;
        }
        return hasRoomFor(first) ? now.perform(first) : FULL;
    }

    public int run(int many) {
        if (many < 1 || many > MOST_MEETINGS) {
            return OUTSIDE;
        }
        if (!hasNet) {
            return STATE;
        }
        for (int done = 0; done < many; done++) {
            now.listMeetings();
            int first = now.listedAt(0);
            if (first == NONE || !hasRoomFor(first)) {
                return done;
            }
            now.perform(first);
        }
        return many;
    }

    // ---- a net changed

    public int join(int a, int b) {
        if (!now.isOpen(a) || !now.isOpen(b) || a == b) {
            return UNKNOWN;
        }
        now.fuse(a, b);
        return now.rings();
    }

    public int stop(int wire) {
        if (!now.isOpen(wire)) {
            return UNKNOWN;
        }
        if (now.nodes() >= MOST_NODES) {
            return FULL;
        }
        int end = now.addNode(END);
        now.move(wire, Graph.port(end, HEAD));
        return end;
    }

    public int change(int node, int kind) {
        int old = now.kindOf(node);
        if (old < ROUND) {
            return UNKNOWN;
        }
        if (kind < ROUND || kind > CURLED) {
            return OUTSIDE;
        }
        now.setKind(node, kind);
        return old;
    }

    public int flip(int node) {
        if (now.kindOf(node) < ROUND) {
            return UNKNOWN;
        }
        now.swapSides(node);
        return now.toldAcross(Graph.port(node, LEFT));
    }

    // ---- the ending

    public int ending(int what) {
        if (what < 0 || what > 6) {
            return OUTSIDE;
        }
        if (!hasNet) {
            return STATE;
        }
        return toldOfEnding(findEnding(now), what);
    }

    public int reading(int sign) {
        if (sign < 0 || sign > MOST_SIGN) {
            return OUTSIDE;
        }
        if (!hasNet) {
            return STATE;
        }
        signs.tellAll(now);
        return signs.at(sign);
    }

    public int endReading(int sign) {
        if (sign < 0 || sign > MOST_SIGN) {
            return OUTSIDE;
        }
        if (!hasNet) {
            return STATE;
        }
        if (!findEnding(now)) {
            return NO_ENDING;
        }
        signs.tellAll(trial);
        return signs.at(sign);
    }

    public int same() {
        if (!hasNet || !hasImage) {
            return STATE;
        }
        if (!findEnding(kept)) {
            return NO_ENDING;
        }
        otherSigns.tellAll(trial);
        int otherRings = trial.rings();
        if (!findEnding(now)) {
            return NO_ENDING;
        }
        signs.tellAll(trial);
        boolean alike = trial.rings() == otherRings && now.hasOpenWiresOf(kept) && signs.areLike(otherSigns);
        return alike ? 1 : 0;
    }

    // ---- what is seen

    public int see(int node, int what, int much) {
        if (now.kindOf(node) < ROUND) {
            return UNKNOWN;
        }
        if (what < 0 || what >= SORTS || much < NONE || much > MOST_MEETINGS) {
            return OUTSIDE;
        }
        return seenNow.add(node, what, much) ? seenNow.size() : FULL;
    }

    public int forget() {
        return seenNow.clear();
    }

    public int runs(int many, int seed, int what) {
        if (many < 1 || many > MOST_MEETINGS || seed < 0 || what < 0 || what > 2) {
            return OUTSIDE;
        }
        if (!hasNet) {
            return STATE;
        }
        trial.copyFrom(now);
        int drawn = seed;
        int most = trial.nodes();
        int done = 0;
        for (; done < many; done++) {
            int choices = trial.listMeetings();
            if (choices <= 0) {
                break;
            }
            drawn = nextSeed(drawn);
            trial.perform(trial.listedAt((drawn / 65536) % choices));
            most = Math.max(most, trial.nodes());
        }
        return what == 0 ? done : what == 1 ? most : drawn;
    }

    // ---- what is told of all

    public int image() {
        if (!hasNet) {
            return STATE;
        }
        kept.copyFrom(now);
        seenKept.copyFrom(seenNow);
        hasImage = true;
        return kept.done(IN_ALL);
    }

    public int restore() {
        if (!hasImage) {
            return STATE;
        }
        now.copyFrom(kept);
        seenNow.copyFrom(seenKept);
        return now.done(IN_ALL);
    }

    public int count(int what) {
        switch (what) {
            case 0:
                return now.nodes();
            case 1:
            case 2:
            case 3:
            case 4:
                return now.nodesOfKind(what - 1);
            case 5:
                return now.openWires();
            case 6:
                return now.rings();
            case 7:
                return now.listMeetings();
            case 8:
            case 9:
            case 10:
            case 11:
                return now.done(what - 8);
            case 12:
                return seenNow.size();
            case 13:
                return page.size();
            case 14:
                return timesRead;
            default:
                return OUTSIDE;
        }
    }

    public long digest() {
        long hash = hashOfWires(hashOfNodes(1153L));
        if (hasNet) {
            signs.tellAll(now);
            hash = hashOfEnding(signs.hashedInto(hash), findEnding(now));
        }
        hash = page.hashedInto(hash);
        for (int what = 0; what <= 14; what++) {
            hash = 31 * hash + count(what);
        }
        return hash;
    }

    private long hashOfNodes(long start) {
        long hash = start;
        for (int number = 0; number < MOST_NODES; number++) {
            if (now.kindOf(number) != FREE) {
                hash = 31 * hash + number;
                for (int what = 0; what <= 4; what++) {
                    hash = 31 * hash + toldOfNode(number, what);
                }
            }
        }
        return hash;
    }

    private long hashOfWires(long start) {
        long hash = start;
        for (int wire = 0; wire < OPEN_WIRES; wire++) {
            if (now.isOpen(wire)) {
                hash = 31 * hash + wire;
                hash = 31 * hash + now.toldAcross(wire);
            }
        }
        return hash;
    }

    private long hashOfEnding(long start, boolean ended) {
        long hash = start;
        for (int what = 0; what <= 6; what++) {
            hash = 31 * hash + toldOfEnding(ended, what);
        }
        if (ended) {
            signs.tellAll(trial);
            hash = signs.hashedInto(hash);
        }
        return hash;
    }

    private int toldOfNode(int node, int what) {
        int kind = now.kindOf(node);
        if (what == 0) {
            return kind;
        }
        if (what == 4) {
            return now.partnerOf(node);
        }
        return kind == END && what > 1 ? NONE : now.toldAcross(Graph.port(node, what - 1));
    }

    private boolean hasRoomFor(int first) {
        int sort = Graph.sortOf(now.kindOf(first), now.kindOf(now.partnerOf(first)));
        // Only COPYING makes more than vanish.
        return sort != COPYING || now.nodes() + 2 <= MOST_NODES;
    }

    private boolean findEnding(Graph graph) {
        trial.copyFrom(graph);
        return trial.finish();
    }

    private int toldOfEnding(boolean ended, int what) {
        if (!ended) {
            return NONE;
        }
        switch (what) {
            case 4:
                return trial.rounds();
            case 5:
                return trial.nodes();
            case 6:
                return trial.rings();
            default:
                return trial.done(what);
        }
    }

    private int kindsLeft(int node) {
        int bits = 0;
        for (int kind = ROUND; kind <= CURLED; kind++) {
            trial.copyFrom(now);
            trial.setKind(node, kind);
            boolean ended = trial.finish();
            for (int what = 0; what < SORTS; what++) {
                answers.put(kind, what, toldOfEnding(ended, what));
            }
            if (seenNow.agree(node, kind, answers)) {
                bits |= 1 << kind;
            }
        }
        return bits;
    }

    private static int nextSeed(int seed) {
        return (int) ((1103515245L * seed + 12345L) & 0x7fffffffL);
    }

    /** THE PAGE. */
    private static final class Page {
        private final int[] letters = new int[MOST_LETTERS];
        private int size;

        boolean add(int code) {
            if (size >= letters.length) {
                return false;
            }
            letters[size] = code;
            size++;
            return true;
        }

        int clear() {
            int had = size;
            size = 0;
            return had;
        }

        int size() {
            return size;
        }

        int at(int index) {
            return index >= 0 && index < size ? letters[index] : NONE;
        }

        long hashedInto(long start) {
            long hash = start;
            for (int i = 0; i < size; i++) {
                hash = 31 * hash + at(i);
            }
            return hash;
        }
    }

    /**
     * Reads a text, letter by letter, and draws what it says into a graph. A bracket is put at its
     * place by its first sign already, so that all that stands open is a stack of brackets.
     */
    private static final class Draft {
        private static final int BEFORE_LEFT = 0, AFTER_LEFT = 1, BEFORE_RIGHT = 2, AFTER_RIGHT = 3;

        private final int[] brackets = new int[MOST_LETTERS];
        private final int[] trees = new int[MOST_LETTERS];
        private final int[] uses = new int[OPEN_WIRES];
        private int depth;
        private int stage;
        private int leftTree;

        /** How many letters at the front of the page some NET could begin with. */
        int drawFrom(Page page, Graph graph) {
            graph.clear();
            Arrays.fill(uses, 0);
            depth = 0;
            stage = BEFORE_LEFT;
            for (int i = 0; i < page.size(); i++) {
                if (!take(page.at(i), graph)) {
                    return i;
                }
            }
            return page.size();
        }

        boolean isWhole() {
            return stage == AFTER_RIGHT && depth == 0;
        }

        /** Done last, as a letter's second use may come before its first one has a WIRE. */
        void closeWires(Graph graph) {
            for (int wire = 0; wire < OPEN_WIRES; wire++) {
                if (uses[wire] == 2) {
                    graph.fuse(wire, OPEN_WIRES + wire);
                }
            }
        }

        private boolean take(int code, Graph graph) {
            if (isTreeDue()) {
                return takeTree(code, graph);
            }
            if (depth > 0) {
                return takeClosing(code, graph);
            }
            if (code != (stage == AFTER_LEFT ? '=' : ',')) {
                return false;
            }
            stage = stage == AFTER_LEFT ? BEFORE_RIGHT : BEFORE_LEFT;
            return true;
        }

        private boolean isTreeDue() {
            if (depth > 0 && depth <= trees.length) {
                return trees[depth - 1] < 2;
            }
            return stage == BEFORE_LEFT || stage == BEFORE_RIGHT;
        }

        private boolean takeTree(int code, Graph graph) {
            int wire = code - 'a';
            if (wire >= 0 && wire < OPEN_WIRES) {
                return takeWire(wire, graph);
            }
            int kind = OPENING.indexOf((char) code);
            if (kind < END || depth >= brackets.length) {
                return false;
            }
            int node = graph.addNode(kind);
            place(Graph.port(node, HEAD), graph);
            if (kind != END) {
                brackets[depth] = node;
                trees[depth] = 0;
                depth++;
            }
            return true;
        }

        private boolean takeWire(int wire, Graph graph) {
            if (wire < 0 || wire >= uses.length || uses[wire] >= 2) {
                return false;
            }
            place(uses[wire] == 0 ? wire : OPEN_WIRES + wire, graph);
            uses[wire]++;
            return true;
        }

        private boolean takeClosing(int code, Graph graph) {
            int top = depth - 1;
            if (top < 0 || top >= brackets.length) {
                return false;
            }
            int kind = graph.kindOf(brackets[top]);
            if (kind < ROUND || kind >= CLOSING.length() || code != CLOSING.charAt(kind)) {
                return false;
            }
            depth = top;
            return true;
        }

        private void place(int tree, Graph graph) {
            int top = depth - 1;
            if (top >= 0 && top < brackets.length) {
                graph.link(Graph.port(brackets[top], LEFT + trees[top]), tree);
                trees[top]++;
            } else if (stage == BEFORE_LEFT) {
                leftTree = tree;
                stage = AFTER_LEFT;
            } else {
                graph.link(leftTree, tree);
                stage = AFTER_RIGHT;
            }
        }
    }

    /**
     * A NET. Its places inside are 0 to 7 for the OPEN WIRES, then eight for the second uses of
     * letters while a text is read, then three for each NODE: so the places of a small graph are
     * those of a larger one, and copies need no reckoning.
     */
    private static final class Graph {
        private static final int FIRST_PORT = 2 * OPEN_WIRES;

        private final int[] kinds;
        private final int[] ends;
        private final int[] firsts;
        private final int[] done = new int[SORTS];
        // All numbers from top on are free, and what stands in the rows there means nothing.
        private int top;
        // No number below this one is free, so none is looked at again and again.
        private int taken;
        private int nodes;
        private int rings;
        private int listed;
        private int rounds;

        Graph(int mostNodes) {
            int most = mostNodes < 0 ? 0 : mostNodes;
            kinds = new int[most];
            ends = new int[FIRST_PORT + 3 * most];
            firsts = new int[most];
            Arrays.fill(ends, NONE);
        }

        static int port(int node, int side) {
            return FIRST_PORT + 3 * node + side;
        }

        static int ownerOf(int place) {
            return place < FIRST_PORT ? NONE : (place - FIRST_PORT) / 3;
        }

        static int sideOf(int place) {
            return place < FIRST_PORT ? NONE : (place - FIRST_PORT) % 3;
        }

        void clear() {
            Arrays.fill(ends, NONE);
            Arrays.fill(done, 0);
            top = 0;
            taken = 0;
            nodes = 0;
            rings = 0;
        }

        void copyFrom(Graph other) {
            top = Math.min(other.top, kinds.length);
            System.arraycopy(other.kinds, 0, kinds, 0, top);
            System.arraycopy(other.ends, 0, ends, 0, FIRST_PORT + 3 * top);
            System.arraycopy(other.done, 0, done, 0, SORTS);
            taken = other.taken;
            nodes = other.nodes;
            rings = other.rings;
        }

        int nodes() {
            return nodes;
        }

        int rings() {
            return rings;
        }

        int rounds() {
            return rounds;
        }

        int done(int sort) {
            return sort >= 0 && sort < done.length ? done[sort] : NONE;
        }

        int kindOf(int node) {
            return node >= 0 && node < top && node < kinds.length ? kinds[node] : FREE;
        }

        void setKind(int node, int kind) {
            if (node >= 0 && node < kinds.length) {
                kinds[node] = kind;
            }
        }

        int nodesOfKind(int kind) {
            int many = 0;
            for (int node = 0; node < top; node++) {
                many += kindOf(node) == kind ? 1 : 0;
            }
            return many;
        }

        int across(int place) {
            return place >= 0 && place < ends.length ? ends[place] : NONE;
        }

        /** As the document numbers PLACES. */
        int toldAcross(int place) {
            int other = across(place);
            if (other == NONE) {
                return NONE;
            }
            return other < OPEN_WIRES ? FIRST_OPEN_PLACE + other : other - FIRST_PORT;
        }

        boolean isOpen(int wire) {
            return wire >= 0 && wire < OPEN_WIRES && across(wire) != NONE;
        }

        int openWires() {
            int many = 0;
            for (int wire = 0; wire < OPEN_WIRES; wire++) {
                many += isOpen(wire) ? 1 : 0;
            }
            return many;
        }

        boolean hasOpenWiresOf(Graph other) {
            for (int wire = 0; wire < OPEN_WIRES; wire++) {
                if (isOpen(wire) != other.isOpen(wire)) {
                    return false;
                }
            }
            return true;
        }

        /** The NODE whose HEAD this place is. */
        int headAt(int place) {
            return sideOf(place) == HEAD ? ownerOf(place) : NONE;
        }

        int partnerOf(int node) {
            return kindOf(node) == FREE ? NONE : headAt(across(port(node, HEAD)));
        }

        /** Calls no other method for each NODE, as an ENDING does this most of all. */
        int listMeetings() {
            int many = 0;
            int head = FIRST_PORT;
            for (int node = 0; node < top && node < kinds.length && head < ends.length; node++) {
                boolean first = kinds[node] != FREE && ends[head] > head && (ends[head] - head) % 3 == 0;
                if (first && many < firsts.length) {
                    firsts[many] = node;
                    many++;
                }
                head += 3;
            }
            listed = many;
            return many;
        }

        int listedAt(int index) {
            return index >= 0 && index < listed && index < firsts.length ? firsts[index] : NONE;
        }

        /** A new NODE of the least free number; what is at its places is still to be said. */
        int addNode(int kind) {
            int node = taken;
            while (node < top && kindOf(node) != FREE) {
                node++;
            }
            if (node < 0 || node >= kinds.length) {
                return NONE;
            }
            taken = node + 1;
            top = Math.max(top, taken);
            kinds[node] = kind;
            nodes++;
            return node;
        }

        private void remove(int node) {
            if (kindOf(node) != FREE) {
                setKind(node, FREE);
                taken = Math.min(taken, node);
                nodes--;
            }
        }

        void link(int place, int other) {
            if (place >= 0 && place < ends.length && other >= 0 && other < ends.length) {
                ends[place] = other;
                ends[other] = place;
            }
        }

        private void vacate(int place) {
            if (place >= 0 && place < ends.length) {
                ends[place] = NONE;
            }
        }

        /** The WIRE at one place ends at another one now. */
        void move(int from, int to) {
            int other = across(from);
            vacate(from);
            link(other, to);
        }

        /** Two places go, and their WIRES become one; it is a RING if they were one already. */
        void fuse(int place, int other) {
            if (across(place) == other) {
                rings++;
            } else {
                link(across(place), across(other));
            }
            vacate(place);
            vacate(other);
        }

        void swapSides(int node) {
            int left = port(node, LEFT);
            int right = port(node, RIGHT);
            int atLeft = across(left);
            int atRight = across(right);
            // A WIRE from the LEFT to the RIGHT stays what it is.
            if (atLeft != right) {
                link(left, atRight);
                link(right, atLeft);
            }
        }

        /** Of a MEETING of these KINDS. */
        static int sortOf(int kind, int otherKind) {
            if (kind == otherKind) {
                return ALIKE;
            }
            return kind == END || otherKind == END ? EATING : COPYING;
        }

        int perform(int first) {
            int second = partnerOf(first);
            if (second == NONE) {
                return NONE;
            }
            int kind = kindOf(first);
            int otherKind = kindOf(second);
            int sort = sortOf(kind, otherKind);
            vacate(port(first, HEAD));
            vacate(port(second, HEAD));
            remove(first);
            remove(second);
            if (sort == COPYING) {
                copyEachOther(first, kind, second, otherKind);
            } else if (sort == EATING) {
                eat(kind == END ? second : first);
            } else if (kind != END) {
                vanish(first, second, kind == ROUND);
            }
            if (sort > IN_ALL && sort < done.length) {
                done[sort]++;
                done[IN_ALL]++;
            }
            return sort;
        }

        private void vanish(int x, int y, boolean crosswise) {
            fuse(port(x, LEFT), port(y, crosswise ? RIGHT : LEFT));
            fuse(port(x, RIGHT), port(y, crosswise ? LEFT : RIGHT));
        }

        // New NODES may have the numbers of those that went: but they take HEADS alone, which are
        // vacant, until every old LEFT and RIGHT has been moved.

        private void eat(int bracket) {
            int first = addNode(END);
            int second = addNode(END);
            move(port(bracket, LEFT), port(first, HEAD));
            move(port(bracket, RIGHT), port(second, HEAD));
        }

        private void copyEachOther(int x, int kindOfX, int y, int kindOfY) {
            int x1 = addNode(kindOfX);
            int x2 = addNode(kindOfX);
            int y1 = addNode(kindOfY);
            int y2 = addNode(kindOfY);
            move(port(y, LEFT), port(x1, HEAD));
            move(port(y, RIGHT), port(x2, HEAD));
            move(port(x, LEFT), port(y1, HEAD));
            move(port(x, RIGHT), port(y2, HEAD));
            link(port(x1, LEFT), port(y1, LEFT));
            link(port(x1, RIGHT), port(y2, LEFT));
            link(port(x2, LEFT), port(y1, RIGHT));
            link(port(x2, RIGHT), port(y2, RIGHT));
        }

        /**
         * Goes on to the ENDING, if there is one. It goes by ROUNDS, as the order changes nothing
         * else of what is told: and a round that would go beyond 60 need not be done to know.
         */
        boolean finish() {
            Arrays.fill(done, 0);
            for (int round = 0; round <= MOST_MEETINGS; round++) {
                int many = listMeetings();
                if (many == 0) {
                    rounds = round;
                    return true;
                }
                if (done[IN_ALL] + many > MOST_MEETINGS) {
                    return false;
                }
                for (int i = 0; i < many; i++) {
                    perform(listedAt(i));
                }
            }
            return false;
        }
    }

    /** A READING. */
    private static final class Signs {
        private final int[] codes = new int[MOST_SIGNS];
        // By place, both ends of a WIRE: the code by which that WIRE was told.
        private final int[] names = new int[Graph.FIRST_PORT + 3 * MOST_TRIAL_NODES];
        private int size;
        private int nextName;

        int at(int index) {
            return index >= 0 && index < size && index < codes.length ? codes[index] : NONE;
        }

        boolean areLike(Signs other) {
            if (size != other.size) {
                return false;
            }
            for (int i = 0; i < size; i++) {
                if (at(i) != other.at(i)) {
                    return false;
                }
            }
            return true;
        }

        long hashedInto(long start) {
            long hash = start;
            for (int i = 0; i < size; i++) {
                hash = 31 * hash + at(i);
            }
            return hash;
        }

        void tellAll(Graph graph) {
            Arrays.fill(names, NONE);
            size = 0;
            nextName = 'a';
            for (int wire = 0; wire < OPEN_WIRES; wire++) {
                if (graph.isOpen(wire)) {
                    tellTree(graph, wire);
                    write(';');
                }
            }
        }

        /** No stack is needed: a NODE told by its HEAD knows there who is above it. */
        private void tellTree(Graph graph, int wire) {
            int from = wire;
            for (int step = 0; step < MOST_STEPS && from != NONE; step++) {
                int node = graph.headAt(graph.across(from));
                int kind = graph.kindOf(node);
                writeFirst(graph, kind, from);
                from = kind > END ? Graph.port(node, LEFT) : nextAfter(graph, from);
            }
        }

        private void writeFirst(Graph graph, int kind, int from) {
            if (kind >= END && kind < OPENING.length()) {
                write(OPENING.charAt(kind));
            } else {
                write(nameOf(from, graph.across(from)));
            }
        }

        /** The place to look from next, behind what was told last; NONE: the TREE is told. */
        private int nextAfter(Graph graph, int from) {
            int at = from;
            for (int step = 0; step < MOST_STEPS && Graph.sideOf(at) == RIGHT; step++) {
                int node = Graph.ownerOf(at);
                int kind = graph.kindOf(node);
                if (kind >= ROUND && kind < CLOSING.length()) {
                    write(CLOSING.charAt(kind));
                }
                at = graph.across(Graph.port(node, HEAD));
            }
            return Graph.sideOf(at) == LEFT ? Graph.port(Graph.ownerOf(at), RIGHT) : NONE;
        }

        private int nameOf(int place, int other) {
            if (place < 0 || place >= names.length || other < 0 || other >= names.length) {
                return NONE;
            }
            if (names[place] == NONE) {
                names[place] = nextName;
                names[other] = nextName;
                nextName++;
            }
            return names[place];
        }

        private void write(int code) {
            if (size < codes.length) {
                codes[size] = code;
                size++;
            }
        }
    }

    /** What is SEEN. */
    private static final class Sightings {
        private final int[] nodes = new int[MOST_SEEN];
        private final int[] whats = new int[MOST_SEEN];
        private final int[] muches = new int[MOST_SEEN];
        private int size;

        boolean add(int node, int what, int much) {
            if (size >= MOST_SEEN) {
                return false;
            }
            nodes[size] = node;
            whats[size] = what;
            muches[size] = much;
            size++;
            return true;
        }

        int clear() {
            int had = size;
            size = 0;
            return had;
        }

        int size() {
            return size;
        }

        void copyFrom(Sightings other) {
            System.arraycopy(other.nodes, 0, nodes, 0, MOST_SEEN);
            System.arraycopy(other.whats, 0, whats, 0, MOST_SEEN);
            System.arraycopy(other.muches, 0, muches, 0, MOST_SEEN);
            size = other.size;
        }

        boolean agree(int node, int kind, Answers answers) {
            for (int i = 0; i < size && i < MOST_SEEN; i++) {
                if (nodes[i] == node && answers.at(kind, whats[i]) != muches[i]) {
                    return false;
                }
            }
            return true;
        }
    }

    /** What would be SEEN of one BRACKET, for each KIND that it might be of. */
    private static final class Answers {
        private final int[] muches = new int[(CURLED + 1) * SORTS];

        void put(int kind, int what, int much) {
            int index = kind * SORTS + what;
            if (index >= 0 && index < muches.length) {
                muches[index] = much;
            }
        }

        int at(int kind, int what) {
            int index = kind * SORTS + what;
            return index >= 0 && index < muches.length ? muches[index] : NONE;
        }

        int bestQuestion(int kinds) {
            if (kinds == 0) {
                return NONE;
            }
            int best = 0;
            for (int what = 1; what < SORTS; what++) {
                if (mostLeft(what, kinds) < mostLeft(best, kinds)) {
                    best = what;
                }
            }
            return best;
        }

        private int mostLeft(int what, int kinds) {
            int most = 0;
            for (int kind = ROUND; kind <= CURLED; kind++) {
                if ((kinds >> kind & 1) == 1) {
                    most = Math.max(most, kindsLike(kind, what, kinds));
                }
            }
            return most;
        }

        private int kindsLike(int kind, int what, int kinds) {
            int many = 0;
            for (int other = ROUND; other <= CURLED; other++) {
                boolean like = at(other, what) == at(kind, what);
                many += like && (kinds >> other & 1) == 1 ? 1 : 0;
            }
            return many;
        }
    }
}
