/**
 * Each promise of the document by itself: what is ordinary, the edges that are named, and what is
 * refused, in the order told. What is due was found by hand from the document.
 */
public final class HeadsMeetPromises {
    private static final int NONE = -1, UNKNOWN = -101, OUTSIDE = -102, STATE = -103, FULL = -104;
    private static final int LEAST = Integer.MIN_VALUE, MOST = Integer.MAX_VALUE;
    private static int wrong = 0;
    private static int tests = 0;

    private static void due(String call, long got, long want) {
        tests++;
        if (got != want) {
            wrong++;
            System.out.println(call + " answered " + got + ", due is " + want);
        }
    }

    private static HeadsMeet typed(String text) {
        HeadsMeet x = new HeadsMeet();
        type(x, text);
        return x;
    }

    private static void type(HeadsMeet x, String text) {
        for (char c : text.toCharArray()) {
            x.letter(c);
        }
    }

    private static HeadsMeet of(String text) {
        HeadsMeet x = typed(text);
        int nodes = 0;
        for (char c : text.toCharArray()) {
            nodes += "*([{".indexOf(c) >= 0 ? 1 : 0;
        }
        due("net() of " + text, x.net(), nodes);
        return x;
    }

    private static void dueReading(String name, HeadsMeet x, String want) {
        for (int i = 0; i <= want.length(); i++) {
            due(name + ": reading(" + i + ")", x.reading(i), i < want.length() ? want.charAt(i) : NONE);
        }
    }

    private static void dueEndReading(String name, HeadsMeet x, String want) {
        for (int i = 0; i <= want.length(); i++) {
            due(name + ": endReading(" + i + ")", x.endReading(i), i < want.length() ? want.charAt(i) : NONE);
        }
    }

    private static void dueEnding(String name, HeadsMeet x, int... want) {
        for (int i = 0; i < 7; i++) {
            due(name + ": ending(" + i + ")", x.ending(i), want.length == 7 ? want[i] : NONE);
        }
    }

    private static void dueCounts(String name, HeadsMeet x, int... want) {
        for (int i = 0; i < 15; i++) {
            due(name + ": count(" + i + ")", x.count(i), want[i]);
        }
    }

    /** The NET of an object with few NODES: it has 512 calls only. */
    private static String shape(HeadsMeet x) {
        StringBuilder text = new StringBuilder();
        for (int i = 0; i < 12; i++) {
            for (int what = 0; what < 5; what++) {
                text.append(x.node(i, what)).append(' ');
            }
        }
        for (int i = 0; i < 8; i++) {
            text.append(x.open(i)).append(' ');
        }
        return text.append(x.count(6)).toString();
    }

    private static void dueShape(String name, HeadsMeet x, HeadsMeet want) {
        tests++;
        if (!shape(x).equals(shape(want))) {
            wrong++;
            System.out.println(name + ": the net is " + shape(x) + ", due is " + shape(want));
        }
    }

    private static String repeated(String part, int times) {
        return part.repeat(times);
    }

    /** "*=*" and so on: so many pairs. */
    private static String pairs(int many) {
        return repeated("*=*,", many - 1) + "*=*";
    }

    /** A chain of so many ROUND ones with ENDS: so many NODES, and as many again and one. */
    private static String chain(int many) {
        return repeated("(*", many) + "*" + repeated(")", many);
    }

    public static void main(String[] args) {
        aNewObject();
        letter();
        blank();
        fault();
        net();
        netWires();
        node();
        as();
        open();
        meetings();
        meetAlike();
        meetCopying();
        meetEating();
        meetRefused();
        run();
        join();
        stop();
        change();
        flip();
        ending();
        endingAtItsLimits();
        reading();
        endReading();
        same();
        see();
        kinds();
        ask();
        forget();
        runs();
        image();
        restore();
        count();
        digest();
        refusalsChangeNothing();
        System.out.println(tests + " answers looked at, " + wrong + " not as due");
        if (wrong != 0) {
            System.exit(1);
        }
    }

    private static void aNewObject() {
        HeadsMeet x = new HeadsMeet();
        dueCounts("new", x, 0, 0, 0, 0, 0, 0, 0, 0, 0, 0, 0, 0, 0, 0, 0);
        due("new: fault()", x.fault(), 0);
        due("new: blank()", x.blank(), 0);
        due("new: forget()", x.forget(), 0);
        due("new: net()", x.net(), STATE);
        due("new: node(0, 0)", x.node(0, 0), UNKNOWN);
        due("new: node(0, 9)", x.node(0, 9), UNKNOWN);
        due("new: as(0, 0)", x.as(0, 0), UNKNOWN);
        due("new: open(0)", x.open(0), UNKNOWN);
        due("new: meetings(0)", x.meetings(0), STATE);
        due("new: meetings(10)", x.meetings(10), STATE);
        due("new: meetings(1)", x.meetings(1), OUTSIDE);
        due("new: meet(0)", x.meet(0), UNKNOWN);
        due("new: run(1)", x.run(1), STATE);
        due("new: run(0)", x.run(0), OUTSIDE);
        due("new: join(0, 1)", x.join(0, 1), UNKNOWN);
        due("new: stop(0)", x.stop(0), UNKNOWN);
        due("new: change(0, 1)", x.change(0, 1), UNKNOWN);
        due("new: flip(0)", x.flip(0), UNKNOWN);
        due("new: ending(0)", x.ending(0), STATE);
        due("new: ending(7)", x.ending(7), OUTSIDE);
        due("new: reading(0)", x.reading(0), STATE);
        due("new: reading(1000)", x.reading(1000), OUTSIDE);
        due("new: endReading(0)", x.endReading(0), STATE);
        due("new: endReading(1000)", x.endReading(1000), OUTSIDE);
        due("new: same()", x.same(), STATE);
        due("new: see(0, 0, 0)", x.see(0, 0, 0), UNKNOWN);
        due("new: runs(1, 0, 0)", x.runs(1, 0, 0), STATE);
        due("new: runs(0, 0, 0)", x.runs(0, 0, 0), OUTSIDE);
        due("new: image()", x.image(), STATE);
        due("new: restore()", x.restore(), STATE);
        long h = 1153;
        for (int i = 0; i < 15; i++) {
            h *= 31;
        }
        due("new: digest()", x.digest(), h);
    }

    private static void letter() {
        HeadsMeet x = new HeadsMeet();
        due("letter(31)", x.letter(31), OUTSIDE);
        due("letter(127)", x.letter(127), OUTSIDE);
        due("letter(least)", x.letter(LEAST), OUTSIDE);
        due("letter(most)", x.letter(MOST), OUTSIDE);
        due("letter(32)", x.letter(32), 1);
        due("letter(126)", x.letter(126), 2);
        for (int i = 3; i <= 80; i++) {
            due("letter the " + i, x.letter('a'), i);
        }
        due("letter the 81", x.letter('a'), FULL);
        due("letter the 81, wrong", x.letter(127), OUTSIDE);
        due("count(13)", x.count(13), 80);
    }

    private static void blank() {
        HeadsMeet x = of("*=*");
        type(x, "a=b");
        due("blank()", x.blank(), 3);
        due("blank() again", x.blank(), 0);
        due("blank() leaves the net", x.count(0), 2);
        due("letter behind blank", x.letter('a'), 1);
    }

    private static void fault() {
        String[] texts = {"", "a", "a=", "a=b", "a=b,", "a=b,c", "a=b,c=d", "(", "(a", "(ab", "(ab)", "(ab)=[cd]", "((", "*=*",
            "((((((((((((((((((((((((((((((((((((((((((((((((((((((((((((((((((((((((((((((((("};
        for (String text : texts) {
            due("fault() of " + text, typed(text).fault(), Math.min(80, text.length()));
        }
        Object[][] faults = {{"=", 0}, {",", 0}, {")", 0}, {"A", 0}, {" a", 0}, {"i", 0}, {"`", 0}, {"a,", 1}, {"ab", 1}, {"a*", 1},
            {"a=,", 2}, {"a==", 2}, {"a=b=", 3}, {"a=b c", 3}, {"a=b,,", 4}, {"a=b,=", 4}, {"()", 1}, {"(a)", 2}, {"(abc", 3},
            {"(ab]", 3}, {"[ab)", 3}, {"{ab]", 3}, {"(a=", 2}, {"(ab=", 3}, {"(a,", 2}, {"(ab))", 4}, {"*)", 1}, {"a=a,a", 4},
            {"(aa)=a", 5}, {"(a[ba])=[ba", 10}, {"a=b)", 3}, {"*=*;", 3}, {"((ab)c]", 6}, {"[(ab)c)", 6}, {"a=b,c,d=e", 5}};
        for (Object[] each : faults) {
            due("fault() of " + each[0], typed((String) each[0]).fault(), (Integer) each[1]);
            due("net() of " + each[0], typed((String) each[0]).net(), STATE);
        }
        due("fault() of 40 NODES", typed(pairs(20)).fault(), 79);
        due("fault() of 52 NODES", typed("*=" + chain(25)).fault(), 78);
    }

    private static void net() {
        for (String text : new String[] {"", "a", "a=", "a=b,", "a=b,c", "a=b,c=", "(", "(ab)", "(ab)=", "(ab)=[c", "(ab)=[cd"}) {
            HeadsMeet x = typed(text);
            due("net() of " + text, x.net(), STATE);
            due("letters kept of " + text, x.count(13), text.length());
        }
        HeadsMeet x = of(pairs(15));
        due("30 NODES", x.count(0), 30);
        due("the page is empty", x.count(13), 0);
        type(x, pairs(16));
        due("32 NODES", x.net(), STATE);
        due("the old net stays", x.count(0), 30);
        due("the page stays", x.count(13), 63);
        due("blank()", x.blank(), 63);
        due("31 NODES", typed("a=" + chain(15)).net(), STATE);
        due("30 NODES with a bracket", typed("*=" + chain(14)).net(), 30);
        due("52 NODES", typed("*=" + chain(25)).net(), STATE);

        HeadsMeet y = of("(ab)=[cd],e=e,*=*");
        y.see(0, 0, 0);
        y.meet(0);
        y.image();
        type(y, "a=b");
        due("net() anew", y.net(), 0);
        dueCounts("net() anew", y, 0, 0, 0, 0, 0, 2, 0, 0, 0, 0, 0, 0, 0, 0, 2);
        due("no image", y.same(), STATE);
        due("no image to go on from", y.restore(), STATE);
    }

    private static void netWires() {
        HeadsMeet x = of("(a[b*])={c(da)}");
        int[][] nodes = {{1, 9, 14, 3}, {2, 2, 901, 6}, {0, 5, NONE, NONE}, {3, 0, 902, 12}, {1, 11, 903, 1}};
        for (int i = 0; i < 5; i++) {
            for (int what = 0; what < 4; what++) {
                due("numbered: node(" + i + ", " + what + ")", x.node(i, what), nodes[i][what]);
            }
        }
        due("a is no open one", x.open(0), UNKNOWN);
        due("b", x.open(1), 4);
        due("a ring", of("a=a").count(6), 1);
        due("a ring of two", of("a=b,b=a").count(6), 1);
        due("a ring of two, twice", of("a=b,a=b").count(6), 1);
        due("a ring of three", of("a=b,c=a,b=c").count(6), 1);
        due("two rings", of("a=a,c=d,d=c").count(6), 2);
        due("eight rings", of("a=a,b=b,c=c,d=d,e=e,f=f,g=g,h=h").count(6), 8);
        HeadsMeet chained = of("a=b,c=a,c=d");
        due("a chain of wires: rings", chained.count(6), 0);
        due("a chain of wires: b", chained.open(1), 903);
        due("a chain of wires: d", chained.open(3), 901);
        due("a chain of wires: a", chained.open(0), UNKNOWN);
        HeadsMeet through = of("(ab)=c,a=d,d=e,b=*,c=f,f=*");
        due("a head by letters", through.node(0, 1), 6);
        due("a left by letters", through.node(0, 2), 904);
        due("a right by letters", through.node(0, 3), 3);
        due("both meet", through.node(0, 4), 2);
        HeadsMeet self = of("a=(ab)");
        due("a head at its own left", self.node(0, 1), 1);
        due("the left at the head", self.node(0, 2), 0);
        due("it meets nobody", self.node(0, 4), NONE);
        HeadsMeet sides = of("(ab)=*,b=a");
        due("left at right", sides.node(0, 2), 2);
        due("right at left", sides.node(0, 3), 1);
        due("no ring of it", sides.count(6), 0);
    }

    private static void node() {
        HeadsMeet x = of("(a*)=[bc],{de}=f");
        int[][] want = {{1, 6, 900, 3, 2}, {0, 2, NONE, NONE, NONE}, {2, 0, 901, 902, 0}, {3, 905, 903, 904, NONE}};
        for (int i = 0; i < 4; i++) {
            for (int what = 0; what < 5; what++) {
                due("node(" + i + ", " + what + ")", x.node(i, what), want[i][what]);
            }
        }
        due("an END's KINDS", x.node(1, 5), NONE);
        due("an END's ASK", x.node(1, 6), NONE);
        for (int node : new int[] {LEAST, -1, 4, 60, 180, MOST}) {
            due("node(" + node + ", 0)", x.node(node, 0), UNKNOWN);
            due("node(" + node + ", 7)", x.node(node, 7), UNKNOWN);
        }
        for (int what : new int[] {LEAST, -1, 7, MOST}) {
            due("node(0, " + what + ")", x.node(0, what), OUTSIDE);
            due("node(1, " + what + ")", x.node(1, what), OUTSIDE);
        }
        x.meet(0);
        x.stop(0);
        due("numbers of those that came", x.count(0), 7);
        HeadsMeet gone = of("*=*,a=*");
        gone.meet(0);
        due("one that vanished", gone.node(0, 0), UNKNOWN);
        due("one that stays has its number", gone.node(2, 0), 0);
    }

    private static void as() {
        HeadsMeet x = of("*=(a[b{cd}])");
        int[][] want = {{0, 0, NONE, NONE, NONE}, {1, NONE, 1, NONE, NONE}, {2, NONE, 2, 2, NONE}, {3, NONE, 3, 3, 3}};
        for (int i = 0; i < 4; i++) {
            for (int what = 0; what < 5; what++) {
                due("as(" + i + ", " + what + ")", x.as(i, what), want[i][what]);
            }
        }
        for (int what : new int[] {LEAST, -1, 5, MOST}) {
            due("as(0, " + what + ")", x.as(0, what), OUTSIDE);
            due("as(4, " + what + ")", x.as(4, what), UNKNOWN);
        }
        for (int node : new int[] {LEAST, -1, 4, MOST}) {
            due("as(" + node + ", 0)", x.as(node, 0), UNKNOWN);
        }
    }

    private static void open() {
        HeadsMeet x = of("(ab)=h,c=d,e=*");
        due("open(0)", x.open(0), 1);
        due("open(1)", x.open(1), 2);
        due("open(2)", x.open(2), 903);
        due("open(3)", x.open(3), 902);
        due("open(4)", x.open(4), 3);
        due("open(7)", x.open(7), 0);
        for (int wire : new int[] {LEAST, -1, 5, 6, 8, 9, 16, 900, MOST}) {
            due("open(" + wire + ")", x.open(wire), UNKNOWN);
        }
    }

    private static void meetings() {
        HeadsMeet x = of("a=b,(ab)=(**),*=*,c=*,*=[de]");
        due("meetings(0)", x.meetings(0), 3);
        due("meetings(10)", x.meetings(10), 0);
        due("meetings(11)", x.meetings(11), 4);
        due("meetings(12)", x.meetings(12), 7);
        due("meetings(13)", x.meetings(13), NONE);
        due("meetings(39)", x.meetings(39), NONE);
        for (int what : new int[] {LEAST, -1, 1, 9, 40, MOST}) {
            due("meetings(" + what + ")", x.meetings(what), OUTSIDE);
        }
        HeadsMeet crossed = of("a=*,b=*,b=*,a=*");
        due("crossed: meetings(10)", crossed.meetings(10), 0);
        due("crossed: meetings(11)", crossed.meetings(11), 1);
        due("crossed: node(0, 4)", crossed.node(0, 4), 3);
        due("none", of("a=a").meetings(0), 0);
        due("15 of them", of(pairs(15)).meetings(24), 28);
    }

    private static void meetAlike() {
        String[][] alike = {{"[ab]=[cd]", "a=c,b=d"}, {"{ab}={cd}", "a=c,b=d"}, {"(ab)=(cd)", "a=d,b=c"},
            {"[ab]=[ab]", "e=e,f=f"}, {"(ab)=(ab)", "e=e"}, {"(ab)=(ba)", "e=e,f=f"}, {"[ab]=[ba]", "e=e"}, {"[aa]=[bc]", "b=c"},
            {"[aa]=[bb]", "e=e"}, {"(aa)=(bb)", "e=e"}, {"(aa)=(bc)", "b=c"}, {"(ab)=(ac)", "b=c"}, {"*=*", "e=e"}};
        for (String[] each : alike) {
            HeadsMeet x = of(each[0]);
            due("meet(0) of " + each[0], x.meet(0), 1);
            due("count(9) of " + each[0], x.count(9), 1);
            HeadsMeet want = of(each[1]);
            if (each[0].equals("*=*")) {
                due("two ENDS leave nothing", x.count(6), 0);
                due("two ENDS leave nothing", x.count(0), 0);
            } else {
                dueShape(each[0], x, want);
            }
        }
        HeadsMeet x = of("[a*]=[b(cd)]");
        due("meet(0)", x.meet(0), 1);
        due("an END meets what was on the other side", x.node(1, 4), 3);
        due("a is with b", x.open(0), 901);
    }

    private static void meetCopying() {
        HeadsMeet x = of("e=*,[ab]=(cd),f=*");
        due("meet(0)", x.meet(0), 2);
        int[][] want = {{0, 904, NONE, NONE}, {2, 902, 13, 16}, {2, 903, 14, 17}, {0, 905, NONE, NONE}, {1, 900, 4, 7},
            {1, 901, 5, 8}};
        for (int i = 0; i < want.length; i++) {
            for (int what = 0; what < 4; what++) {
                due("copied: node(" + i + ", " + what + ")", x.node(i, what), want[i][what]);
            }
        }
        due("copied: count(10)", x.count(10), 1);
        HeadsMeet back = of("a=f,{bf}=*,b=(cd)");
        due("back: partner", back.node(0, 4), 1);
        back.meet(0);
        due("an END at the right wire", back.node(1, 1), 900);
        HeadsMeet knot = of("(aa)=[bb]");
        due("knot: meet", knot.meet(0), 2);
        due("knot: both pairs meet", knot.meetings(0), 2);
        due("knot: first", knot.node(0, 4), 1);
        due("knot: second", knot.node(2, 4), 3);
        dueEnding("knot", of("(aa)=[bb]"), 3, 3 - 1, 1, 0, 2, 0, 1);
        HeadsMeet cross = of("(ab)=[ab]");
        due("cross: meet", cross.meet(0), 2);
        due("cross: x at y's left meets y at x's left", cross.node(0, 4), 2);
        due("cross: at the rights", cross.node(1, 4), 3);
    }

    private static void meetEating() {
        HeadsMeet x = of("(ab)=*,c=*");
        due("meet(0)", x.meet(0), 3);
        due("eaten: count(11)", x.count(11), 1);
        due("eaten: node(0, 0)", x.node(0, 0), 0);
        due("eaten: open(0)", x.open(0), 0);
        due("eaten: open(1)", x.open(1), 3);
        HeadsMeet y = of("*={ab}");
        due("meet(0)", y.meet(0), 3);
        due("eaten: open(0)", y.open(0), 0);
        due("eaten: open(1)", y.open(1), 3);
        HeadsMeet z = of("a=*,(bb)=a");
        due("meet(0)", z.meet(0), 3);
        due("both ENDS meet", z.node(0, 4), 1);
        due("meet(0)", z.meet(0), 1);
        due("no ring of two ENDS", z.count(6), 0);
    }

    private static void meetRefused() {
        HeadsMeet x = of("*=*,*=*");
        for (int meeting : new int[] {LEAST, -1, 2, 10, MOST}) {
            due("meet(" + meeting + ")", x.meet(meeting), UNKNOWN);
        }
        due("meet(1)", x.meet(1), 1);
        due("the first stays", x.node(0, 4), 1);
        due("meet(1)", x.meet(1), UNKNOWN);
        // These copy each other for ever, each time two NODES more; the END can still eat.
        HeadsMeet full = of("(ab)=[ab],*={cd}");
        due("run(27)", full.run(27), 27);
        due("58 NODES", full.count(0), 58);
        due("to 60 NODES", full.meet(0), 2);
        due("60 NODES", full.count(0), 60);
        due("FULL", full.meet(0), FULL);
        due("still 60", full.count(0), 60);
        due("not done", full.count(8), 28);
        due("meet(99) when FULL", full.meet(99), UNKNOWN);
        due("eating when FULL", full.meet(placeOf(full, 2)), 3);
        due("60 as before", full.count(0), 60);
        HeadsMeet ends = of("(ab)=[ab],*=*");
        due("run(28)", ends.run(28), 28);
        due("alike when FULL", ends.meet(placeOf(ends, 2)), 1);
        due("58 of them", ends.count(0), 58);
        due("copying again", ends.meet(0), 2);
        HeadsMeet odd = of("(ab)=[ab],c=*");
        due("run(60)", odd.run(60), 28);
        due("59 NODES", odd.count(0), 59);
        due("61 there would be", odd.meet(0), FULL);
    }

    private static int placeOf(HeadsMeet x, int first) {
        for (int i = 0; i < 30; i++) {
            if (x.meetings(10 + i) == first) {
                return i;
            }
        }
        return NONE;
    }

    private static void run() {
        HeadsMeet x = of("*=*,*=*,*=(ab)");
        due("run(2)", x.run(2), 2);
        due("count(8)", x.count(8), 2);
        due("the last is left", x.node(4, 4), 5);
        due("run(60)", x.run(60), 1);
        due("run(60) again", x.run(60), 0);
        for (int many : new int[] {LEAST, -1, 0, 61, MOST}) {
            due("run(" + many + ")", x.run(many), OUTSIDE);
        }
        HeadsMeet endless = of("(ab)=[ab]");
        due("run(60) of what never ends", endless.run(60), 29);
        due("60 NODES then", endless.count(0), 60);
        due("run(1) when FULL", endless.run(1), 0);
        due("meet(0) when FULL", endless.meet(0), FULL);
        due("count(10)", endless.count(10), 29);
    }

    private static void join() {
        HeadsMeet x = of("(ab)=c,d=e");
        due("join(3, 4)", x.join(3, 4), 1);
        due("join(4, 3)", x.join(4, 3), UNKNOWN);
        due("join(0, 0)", x.join(0, 0), UNKNOWN);
        due("join(0, 3)", x.join(0, 3), UNKNOWN);
        due("join(3, 0)", x.join(3, 0), UNKNOWN);
        due("join(0, 8)", x.join(0, 8), UNKNOWN);
        due("join(-1, 0)", x.join(-1, 0), UNKNOWN);
        due("join(least, most)", x.join(LEAST, MOST), UNKNOWN);
        due("join(0, 1)", x.join(0, 1), 1);
        due("left at right", x.node(0, 2), 2);
        due("no open one", x.open(0), UNKNOWN);
        due("one open wire", x.count(5), 1);
        HeadsMeet y = of("a=*,b=*,c=d");
        due("join to a meeting", y.join(0, 1), 0);
        due("it is one", y.meetings(0), 1);
        HeadsMeet z = of("a=*,c=d");
        due("join to a longer wire", z.join(0, 2), 0);
        due("open(3)", z.open(3), 0);
    }

    private static void stop() {
        HeadsMeet x = of("*=*,(ab)=c");
        x.meet(0);
        due("stop(2)", x.stop(2), 0);
        due("it is an END", x.node(0, 0), 0);
        due("it meets", x.node(0, 4), 2);
        due("stop(2) again", x.stop(2), UNKNOWN);
        due("stop(0)", x.stop(0), 1);
        due("stop(1)", x.stop(1), 3);
        for (int wire : new int[] {LEAST, -1, 8, MOST}) {
            due("stop(" + wire + ")", x.stop(wire), UNKNOWN);
        }
        HeadsMeet wire = of("a=b");
        due("stop(0)", wire.stop(0), 0);
        due("the other end", wire.open(1), 0);
        HeadsMeet full = of("(ab)=[ab],c=d");
        full.run(60);
        due("60 NODES", full.count(0), 60);
        due("stop(2) when FULL", full.stop(2), FULL);
        due("stop(0) when FULL", full.stop(0), UNKNOWN);
        due("still open", full.open(2), 903);
        HeadsMeet last = of("(ab)=[ab],c=*,d=e");
        last.run(60);
        due("59 NODES", last.count(0), 59);
        due("stop(3) to 60", last.stop(3), 59);
        due("stop(4) above", last.stop(4), FULL);
    }

    private static void change() {
        HeadsMeet x = of("(ab)=*");
        due("change(0, 3)", x.change(0, 3), 1);
        due("change(0, 2)", x.change(0, 2), 3);
        due("change(0, 2) again", x.change(0, 2), 2);
        due("change(0, 1)", x.change(0, 1), 2);
        due("node(0, 0)", x.node(0, 0), 1);
        for (int kind : new int[] {LEAST, -1, 0, 4, MOST}) {
            due("change(0, " + kind + ")", x.change(0, kind), OUTSIDE);
            due("change(1, " + kind + ")", x.change(1, kind), UNKNOWN);
        }
        for (int node : new int[] {LEAST, -1, 1, 2, MOST}) {
            due("change(" + node + ", 1)", x.change(node, 1), UNKNOWN);
        }
    }

    private static void flip() {
        HeadsMeet x = of("(ab)=*");
        due("flip(0)", x.flip(0), 901);
        due("its right", x.node(0, 3), 900);
        due("open(0)", x.open(0), 2);
        due("open(1)", x.open(1), 1);
        due("flip(0) back", x.flip(0), 900);
        for (int node : new int[] {LEAST, -1, 1, 2, MOST}) {
            due("flip(" + node + ")", x.flip(node), UNKNOWN);
        }
        HeadsMeet loop = of("(aa)=b");
        due("flip of a loop", loop.flip(0), 2);
        due("its right", loop.node(0, 3), 1);
        HeadsMeet self = of("(ab)=a");
        due("flip of what bites itself", self.flip(0), 901);
        due("its right", self.node(0, 3), 0);
        due("its head", self.node(0, 1), 2);
        HeadsMeet two = of("(ab)=c,[ab]=d");
        due("flip of one of two", two.flip(0), 5);
        due("the other one's left", two.node(1, 2), 2);
        due("the other one's right", two.node(1, 3), 1);
    }

    private static void ending() {
        dueEnding("no meeting", of("a=b,c=c"), 0, 0, 0, 0, 0, 0, 1);
        dueEnding("two ENDS", of("*=*"), 1, 1, 0, 0, 1, 0, 0);
        dueEnding("eaten", of("*=(a[bc])"), 2, 0, 0, 2, 2, 3, 0);
        dueEnding("copied", of("(ab)=[cd]"), 1, 0, 1, 0, 1, 4, 0);
        dueEnding("rings", of("[ab]=[ab],c=c"), 1, 1, 0, 0, 1, 0, 3);
        dueEnding("at once", of(pairs(15)), 15, 15, 0, 0, 1, 0, 0);
        dueEnding("in two rounds", of("(**)=(**),*=*"), 4, 4, 0, 0, 2, 0, 0);
        dueEnding("never", of("(ab)=[ab]"));
        HeadsMeet x = of("*=*,*=*");
        x.meet(0);
        dueEnding("what is yet to come", x, 1, 1, 0, 0, 1, 0, 0);
        due("nothing was done by it", x.count(8), 1);
        due("nothing was done by it", x.count(0), 2);
        for (int what : new int[] {LEAST, -1, 7, MOST}) {
            due("ending(" + what + ")", x.ending(what), OUTSIDE);
        }
    }

    private static void endingAtItsLimits() {
        // m SQUARE ones with OPEN WIRES and n ROUND ones with ENDS: m times n copy, then the n + 1
        // chains of m at the ENDS are eaten; nothing of that takes a NODE away.
        HeadsMeet x = of("(((((((**)*)*)*)*)*)*)=[[[[ab]c]d]e]");
        due("60: in all", x.ending(0), 60);
        due("60: ALIKE", x.ending(1), 0);
        due("60: COPYING", x.ending(2), 28);
        due("60: EATING", x.ending(3), 32);
        due("60: NODES left, above 60", x.ending(5), 75);
        HeadsMeet more = of("(((((((**)*)*)*)*)*)*)=[[[[ab]c]d]e],*=*");
        dueEnding("61", more);
        due("61: endReading(0)", more.endReading(0), -2);
        due("61: meet the last", more.meet(1), 1);
        due("60 again", more.ending(0), 60);
        dueEndReading("60", x, endOfChains());
    }

    /** At each of five OPEN WIRES the seven ROUND ones, eaten at all of their ends. */
    private static String endOfChains() {
        return repeated("(((((((**)*)*)*)*)*)*);", 5);
    }

    private static void reading() {
        dueReading("a wire", of("a=b"), "a;a;");
        dueReading("no open wire", of("c=c"), "");
        dueReading("heads", of("a=(*[b{cc}])"), "(*[a{bb}]);a;");
        dueReading("in the order of letters", of("h=*,a=b,c=[g*]"), "a;a;[b*];b;*;");
        dueReading("what meets is not read", of("(ab)=[cd]"), "a;b;c;d;");
        dueReading("the same wire the same", of("a=(bc),d=[cb]"), "(ab);[ba];");
        dueReading("told once", of("a=(bc),[bd]=*,c=e"), "(ab);c;b;");
        due("its own letters again", of("(ab)=b").reading(0), 'a');
        // 29 times a SQUARE one more comes at b, a ROUND one at c, and a WIRE between these two:
        // so many WIRES that they are told beyond z.
        HeadsMeet far = of("(ab)=[ac]");
        due("run(60)", far.run(60), 29);
        StringBuilder at = new StringBuilder();
        for (int side = 0; side < 2; side++) {
            at.append(repeated(side == 0 ? "[" : "(", 29)).append((char) (side == 0 ? 97 : 127));
            for (int i = 1; i <= 29; i++) {
                at.append((char) (97 + i)).append(side == 0 ? ']' : ')');
            }
            at.append(';');
        }
        dueReading("beyond z", far, at.toString());
        HeadsMeet x = of("a=b");
        for (int sign : new int[] {LEAST, -1, 1000, MOST}) {
            due("reading(" + sign + ")", x.reading(sign), OUTSIDE);
        }
        due("reading(999)", x.reading(999), NONE);
        due("reading(4)", x.reading(4), NONE);
    }

    private static void endReading() {
        dueEndReading("copied", of("(ab)=[cd]"), "[ab];[cd];(ac);(bd);");
        dueEndReading("alike", of("[ab]=[c*]"), "a;*;a;");
        dueEndReading("crosswise", of("(ab)=(c*)"), "*;a;a;");
        HeadsMeet x = of("(ab)=[ab],c=*");
        due("never: endReading(0)", x.endReading(0), -2);
        due("never: endReading(999)", x.endReading(999), -2);
        due("never: reading(0)", x.reading(0), '*');
        for (int sign : new int[] {LEAST, -1, 1000, MOST}) {
            due("endReading(" + sign + ")", x.endReading(sign), OUTSIDE);
        }
        // Each TREE is copied to all leaves of the other one, leaf by leaf at one WIRE.
        dueEndReading("of trees", of("((ab)c)=[[de]f]"), "[[ab]c];[[de]f];[[gh]i];((ad)g);((be)h);((cf)i);");
    }

    private static void same() {
        HeadsMeet x = of("(ab)=[cd],e=*,f=*");
        due("no image", x.same(), STATE);
        due("image()", x.image(), 0);
        due("same()", x.same(), 1);
        x.meet(0);
        due("same() behind a meeting", x.same(), 1);
        x.restore();
        x.change(0, 3);
        due("same() of another KIND", x.same(), 0);
        x.restore();
        x.flip(1);
        due("same() with LEFT and RIGHT changed about", x.same(), 0);
        x.flip(1);
        due("same() changed back", x.same(), 1);
        x.join(4, 5);
        due("same() with other open wires", x.same(), 0);
        x.restore();
        due("same()", x.same(), 1);

        // The READING alone is like: "*;*;" for a and b, and for e and f.
        HeadsMeet letters = of("a=*,b=*,c=d,e=f");
        letters.join(2, 4);
        letters.image();
        letters.stop(3);
        due("like READINGS need like wires", letters.same(), 0);
        HeadsMeet wires = of("a=*,b=*,c=*,d=*");
        wires.image();
        wires.join(0, 1);
        due("fewer wires", wires.same(), 0);
        wires.image();
        due("the latest image", wires.same(), 1);

        HeadsMeet rings = of("[ab]=[ab],c=d");
        rings.image();
        rings.change(0, 1);
        rings.change(1, 1);
        due("fewer rings", rings.same(), 0);
        rings.join(2, 3);
        due("as many rings, fewer wires", rings.same(), 0);

        HeadsMeet endless = of("(ab)=[ab]");
        endless.image();
        due("both without an ENDING", endless.same(), -2);
        endless.change(0, 2);
        due("the image without an ENDING", endless.same(), -2);
        endless.image();
        due("both with an ENDING", endless.same(), 1);
        endless.change(0, 1);
        due("the net without an ENDING", endless.same(), -2);
        type(endless, "a=b");
        endless.net();
        due("an image of another net", endless.same(), STATE);
    }

    private static void see() {
        HeadsMeet x = of("(ab)=*");
        due("see(1, 0, 0)", x.see(1, 0, 0), UNKNOWN);
        due("see(2, 9, 99)", x.see(2, 9, 99), UNKNOWN);
        due("see(-1, 0, 0)", x.see(-1, 0, 0), UNKNOWN);
        due("see(most, 0, 0)", x.see(MOST, 0, 0), UNKNOWN);
        for (int what : new int[] {LEAST, -1, 4, MOST}) {
            due("see(0, " + what + ", 0)", x.see(0, what, 0), OUTSIDE);
        }
        for (int much : new int[] {LEAST, -2, 61, MOST}) {
            due("see(0, 0, " + much + ")", x.see(0, 0, much), OUTSIDE);
        }
        due("see(0, 0, 0)", x.see(0, 0, 0), 1);
        due("see(0, 0, 0) again", x.see(0, 0, 0), 2);
        due("see(0, 3, 60)", x.see(0, 3, 60), 3);
        due("see(0, 3, NONE)", x.see(0, 3, NONE), 4);
        due("see(0, 1, 1)", x.see(0, 1, 1), 5);
        due("see(0, 2, 2)", x.see(0, 2, 2), 6);
        due("see(0, 2, 2)", x.see(0, 2, 2), FULL);
        due("see(0, 2, 61) when FULL", x.see(0, 2, 61), OUTSIDE);
        due("see(1, 2, 2) when FULL", x.see(1, 2, 2), UNKNOWN);
        due("count(12)", x.count(12), 6);
    }

    private static void kinds() {
        HeadsMeet x = of("(ab)=[cd]");
        due("all", x.node(0, 5), 14);
        x.see(1, 1, 1);
        due("of another one", x.node(0, 5), 14);
        due("of this one", x.node(1, 5), 2);
        x.see(0, 2, 1);
        due("not SQUARE", x.node(0, 5), 2 + 8);
        x.see(0, 0, 1);
        due("nothing new", x.node(0, 5), 2 + 8);
        x.see(0, 0, 7);
        due("none", x.node(0, 5), 0);
        due("none: ASK", x.node(0, 6), NONE);
        due("the net stays as it is", x.node(0, 0), 1);
        x.forget();
        due("all again", x.node(0, 5), 14);

        HeadsMeet endless = of("(ab)=[ab]");
        endless.see(0, 0, NONE);
        due("without an ENDING", endless.node(0, 5), 2 + 8);
        endless.forget();
        endless.see(0, 3, NONE);
        due("no count of EATING either", endless.node(0, 5), 2 + 8);
        endless.see(0, 0, 1);
        due("both cannot be", endless.node(0, 5), 0);
    }

    private static void ask() {
        HeadsMeet x = of("(ab)=[cd]");
        due("1 parts SQUARE from the rest", x.node(0, 6), 1);
        x.see(0, 1, 0);
        due("two that nothing parts", x.node(0, 6), 0);
        HeadsMeet one = of("(ab)=[cd]");
        one.see(0, 1, 1);
        due("one left", one.node(0, 6), 0);
        // As a ROUND one 6, 1, 2, 3 there are; as a SQUARE one 3, 2, 0, 1; as a CURLED one 3, 1, 1, 1.
        HeadsMeet copying = of("[*b]=[{f*}c]");
        due("2 parts all", copying.node(0, 6), 2);
        copying.see(0, 1, 1);
        due("ROUND or CURLED", copying.node(0, 5), 2 + 8);
        due("0 parts these already", copying.node(0, 6), 0);
        copying.see(0, 0, 6);
        due("ROUND", copying.node(0, 5), 2);
        // As a ROUND one 4, 1, 2, 1; as a SQUARE one 4, 1, 1, 2; as a CURLED one 3, 2, 1, 0.
        HeadsMeet eating = of("[{af}h]=[[**]e]");
        due("3 parts all", eating.node(2, 6), 3);
        eating.see(2, 0, 4);
        due("ROUND or SQUARE", eating.node(2, 5), 2 + 4);
        due("2 parts these already", eating.node(2, 6), 2);
        eating.see(2, 3, 2);
        due("SQUARE", eating.node(2, 5), 4);
        HeadsMeet free = of("(ab)=c");
        due("nothing parts them", free.node(0, 6), 0);
        HeadsMeet endless = of("(ab)=[ab]");
        due("what has no ENDING is parted by all", endless.node(0, 6), 0);
    }

    private static void forget() {
        HeadsMeet x = of("(ab)=*");
        x.see(0, 0, 0);
        x.see(0, 1, 0);
        due("forget()", x.forget(), 2);
        due("forget() again", x.forget(), 0);
        due("count(12)", x.count(12), 0);
        due("see anew", x.see(0, 0, 0), 1);
    }

    private static void runs() {
        HeadsMeet x = of("*=*,*=(ab),(cd)=[ef]");
        for (int many : new int[] {LEAST, -1, 0, 61, MOST}) {
            due("runs(" + many + ", 0, 0)", x.runs(many, 0, 0), OUTSIDE);
        }
        for (int seed : new int[] {LEAST, -1}) {
            due("runs(1, " + seed + ", 0)", x.runs(1, seed, 0), OUTSIDE);
        }
        for (int what : new int[] {LEAST, -1, 3, MOST}) {
            due("runs(1, 0, " + what + ")", x.runs(1, 0, what), OUTSIDE);
        }
        due("runs(60, 0, 0)", x.runs(60, 0, 0), 3);
        due("runs(2, 0, 0)", x.runs(2, 0, 0), 2);
        due("runs(1, 0, 2)", x.runs(1, 0, 2), 12345);
        due("runs(2, 0, 2)", x.runs(2, 0, 2), (int) ((1103515245L * 12345 + 12345) % (1L << 31)));
        due("runs(1, 0, 1): the first is done", x.runs(1, 0, 1), 6);
        // 1103515245 and 12345 by 65536 is 16838, its rest by 3 is 2: the copying.
        due("runs(1, 1, 1): the third is done", x.runs(1, 1, 1), 8);
        due("nothing is done by it", x.count(8), 0);
        HeadsMeet still = of("a=*");
        due("no meeting: done", still.runs(60, 77, 0), 0);
        due("no meeting: NODES", still.runs(60, 77, 1), 1);
        due("no meeting: no DRAW", still.runs(60, 77, 2), 77);
        HeadsMeet endless = of("(ab)=[ab]");
        due("endless: done", endless.runs(60, MOST, 0), 60);
        due("endless: above 60 NODES", endless.runs(60, MOST, 1), 122);
    }

    private static void image() {
        HeadsMeet x = of("*=*,*=*,(ab)=c,d=d");
        due("image()", x.image(), 0);
        x.see(4, 0, 0);
        x.meet(0);
        due("image()", x.image(), 1);
        x.meet(0);
        x.forget();
        due("restore()", x.restore(), 1);
        due("count(9)", x.count(9), 1);
        due("count(12)", x.count(12), 1);
        due("count(6)", x.count(6), 1);
    }

    private static void restore() {
        HeadsMeet x = of("(ab)=[cd],e=f");
        due("none was kept", x.restore(), STATE);
        HeadsMeet first = of("(ab)=[cd],e=f");
        x.see(0, 1, 2);
        x.image();
        x.meet(0);
        x.join(4, 5);
        x.join(0, 2);
        x.stop(1);
        x.see(0, 0, 0);
        x.letter('a');
        due("restore()", x.restore(), 0);
        dueShape("restored", x, first);
        dueCounts("restored", x, 2, 0, 1, 1, 0, 6, 0, 1, 0, 0, 0, 0, 1, 1, 1);
        x.meet(0);
        due("restore() once more", x.restore(), 0);
        dueShape("restored once more", x, first);
        x.blank();
        type(x, "a=");
        due("net() refused", x.net(), STATE);
        due("the image stays", x.restore(), 0);
        type(x, "b");
        due("net()", x.net(), 0);
        due("another net since", x.restore(), STATE);
    }

    private static void count() {
        HeadsMeet x = of("[*a]=(*{bc}),d=d,*={e[ff]},[gg]=h");
        type(x, "xyz");
        x.see(0, 0, 0);
        dueCounts("count", x, 9, 3, 1, 3, 2, 5, 1, 2, 0, 0, 0, 0, 1, 3, 1);
        x.meet(0);
        x.meet(1);
        // The second one was that of an END and a ROUND one that had just come.
        dueCounts("count behind", x, 11, 4, 1, 4, 2, 5, 1, 3, 2, 0, 1, 1, 1, 3, 1);
        for (int what : new int[] {LEAST, -1, 15, MOST}) {
            due("count(" + what + ")", x.count(what), OUTSIDE);
        }
    }

    private static long hash(int... numbers) {
        long h = 1153;
        for (int number : numbers) {
            h = 31 * h + number;
        }
        return h;
    }

    private static void digest() {
        HeadsMeet page = typed("z!");
        due("digest() of a page", page.digest(), hash('z', '!', 0, 0, 0, 0, 0, 0, 0, 0, 0, 0, 0, 0, 0, 2, 0));
        HeadsMeet wire = of("a=b");
        due("digest() of a wire", wire.digest(), hash(0, 901, 1, 900, 'a', ';', 'a', ';', 0, 0, 0, 0, 0, 0, 0,
            'a', ';', 'a', ';', 0, 0, 0, 0, 0, 2, 0, 0, 0, 0, 0, 0, 0, 0, 1));
        HeadsMeet eaten = of("*=[h*]");
        due("digest() of a net", eaten.digest(), hash(0, 0, 3, -1, -1, 1, 1, 2, 0, 907, 6, 0, 2, 0, 5, -1, -1, -1, 7, 4,
            'a', ';', 2, 1, 0, 1, 2, 1, 0, '*', ';', 3, 2, 0, 1, 0, 1, 0, 1, 0, 0, 0, 0, 0, 0, 1));
        HeadsMeet endless = of("(ab)=[ab]");
        due("digest() without an ENDING", endless.digest(), hash(0, 1, 3, 4, 5, 1, 1, 2, 0, 1, 2, 0,
            -1, -1, -1, -1, -1, -1, -1, 2, 0, 1, 1, 0, 0, 0, 1, 0, 0, 0, 0, 0, 0, 1));
    }

    private static void refusalsChangeNothing() {
        HeadsMeet x = of("(ab)=[ab],c=d");
        x.image();
        x.run(60);
        for (int i = 0; i < 6; i++) {
            x.see(firstBracket(x), 0, 0);
        }
        type(x, repeated("a", 80));
        long before = x.digest();
        x.letter('a');
        x.letter(0);
        x.net();
        x.node(0, 9);
        x.as(99, 0);
        x.open(7);
        x.meetings(40);
        x.meet(0);
        x.meet(99);
        x.run(61);
        x.run(60);
        x.join(2, 2);
        x.join(2, 7);
        x.stop(2);
        x.stop(0);
        x.change(0, 4);
        x.change(99, 1);
        x.flip(99);
        x.ending(7);
        x.reading(-1);
        x.endReading(-1);
        x.see(firstBracket(x), 0, 0);
        x.see(0, 4, 0);
        x.runs(61, 0, 0);
        x.runs(60, 0, 0);
        x.same();
        x.count(15);
        x.fault();
        due("refusals change nothing", x.digest(), before);
    }

    private static int firstBracket(HeadsMeet x) {
        for (int i = 0; i < 60; i++) {
            if (x.as(i, 2) == i) {
                return i;
            }
        }
        return NONE;
    }
}
