/** The boundary cases that promises 1 to 8 name: the net. */
public final class EdgesOfNets extends Edges {
    private static final int[] WRONG_NODES = {LEAST, -60, -1, 60, 61, 180, 300, 900, MOST};

    public static void main(String[] args) {
        runAll(EdgesOfNets.class, promises(1, 8));
    }

    // ---- promise 1: a new object

    @Says("No NET.")
    static void promise01_a_new_object_has_no_NET() {
        dueCounts(fresh(), 0, 0, 0, 0, 0, 0, 0, 0, 0, 0, 0, 0, 0, 0, 0);
        due("meetings(0)", fresh().meetings(0), STATE);
        due("run(1)", fresh().run(1), STATE);
        due("ending(0)", fresh().ending(0), STATE);
        due("reading(0)", fresh().reading(0), STATE);
        due("endReading(0)", fresh().endReading(0), STATE);
        due("same()", fresh().same(), STATE);
        due("runs(1, 0, 0)", fresh().runs(1, 0, 0), STATE);
        due("image()", fresh().image(), STATE);
        due("restore()", fresh().restore(), STATE);
        due("node(0, 0)", fresh().node(0, 0), UNKNOWN);
        due("open(0)", fresh().open(0), UNKNOWN);
        due("meet(0)", fresh().meet(0), UNKNOWN);
        due("forget()", fresh().forget(), 0);
        due("blank()", fresh().blank(), 0);
        due("fault()", fresh().fault(), 0);
        due("net()", fresh().net(), STATE);
        due("another object has its own", Tried.of("a=a").count(6) + fresh().count(6), 1);
    }

    // ---- promise 2: letter

    @Says("A letter comes behind THE PAGE, told by its code: how many THE PAGE has.")
    static void promise02_a_letter_comes_behind_from_the_1st_to_the_80th() {
        Tried x = fresh();
        for (int i = 0; i < 80; i++) {
            due("letter the " + (i + 1), x.letter(EIGHTY.charAt(i)), i + 1);
        }
        due("they are in their order: net()", x.net(), 26);
        due("the 1st behind net()", x.letter('a'), 1);
        x.blank();
        due("the 1st behind blank()", x.letter('a'), 1);
    }

    @Says("OUTSIDE: code (32 to 126)")
    static void promise02_OUTSIDE_code_32_to_126() {
        Tried x = fresh();
        due("letter(32)", x.letter(32), 1);
        due("letter(126)", x.letter(126), 2);
        due("digest()", x.digest(), Tried.typed(" ~").digest());
        for (int code : new int[] {LEAST, -97, -1, 0, 31, 127, 128, 97 + 256, 97 + 65536, MOST}) {
            refused("letter(" + code + ")", OUTSIDE, each -> each.letter(code), ALL);
        }
    }

    @Says("FULL: above 80")
    static void promise02_FULL_above_80() {
        Tried x = Tried.typed("a".repeat(79));
        due("the 80th", x.letter('b'), 80);
        due("the 81st", x.letter('c'), FULL);
        due("once more", x.letter('c'), FULL);
        due("count(13)", x.count(13), 80);
        for (int code : new int[] {32, 'a', 126}) {
            refused("letter(" + code + ") when FULL", FULL, each -> each.letter(code), Edges::full, () -> Tried.typed(EIGHTY));
        }
        for (int code : new int[] {31, 127}) {
            refused("letter(" + code + ") when FULL", OUTSIDE, each -> each.letter(code), Edges::full, () -> Tried.typed(EIGHTY));
        }
    }

    // ---- promise 3: blank

    @Says("THE PAGE is empty: how many letters it had.")
    static void promise03_blank_of_none_of_one_and_of_80() {
        Tried x = fresh();
        due("of none", x.blank(), 0);
        x.letter('a');
        due("of one", x.blank(), 1);
        due("of none again", x.blank(), 0);
        x.type(EIGHTY);
        due("of 80", x.blank(), 80);
        due("count(13)", x.count(13), 0);
        due("fault()", x.fault(), 0);
        due("the first letter anew", x.letter('b'), 1);
        Tried full = full();
        full.blank();
        due("THE NET stays", full.count(0), 60);
        due("SEEN stays", full.count(12), 6);
        due("the IMAGE stays", full.restore(), 0);
    }

    // ---- promise 4: fault

    @Says("The place (from 0) of the first letter of THE PAGE that no NET has there, behind those ahead of it")
    static void promise04_fault_at_the_first_letter_and_at_the_last() {
        due("the first", Tried.typed(")").fault(), 0);
        due("the first of many", Tried.typed("x" + EIGHTY.substring(1)).fault(), 0);
        due("the second", Tried.typed("a)").fault(), 1);
        due("the 80th", Tried.typed(EIGHTY.substring(0, 79) + "=").fault(), 79);
        due("the 80th, behind 79 that began", Tried.typed("(".repeat(79) + ")").fault(), 79);
        due("the first of several", Tried.typed("a=b=c=d").fault(), 3);
        due("right ones behind it", Tried.typed("a=b;c=d,e=f").fault(), 3);
        due("a third one", Tried.typed("a=a,b=a").fault(), 6);
        Tried x = Tried.typed("a=b=c");
        due("asked twice", x.fault(), 3);
        due("asked twice", x.fault(), 3);
        due("nothing is gone", x.count(13), 5);
    }

    @Says("(however many NODES it has)")
    static void promise04_fault_however_many_NODES() {
        for (String text : new String[] {pairs(15), pairs(16), pairs(20), "a=" + chain(15), "*=" + chain(25)}) {
            due("fault() of " + text, Tried.typed(text).fault(), text.length());
        }
        due("behind 31 NODES", Tried.typed(pairs(15) + ",*=a=").fault(), 63);
    }

    @Says("how many letters it has, if there is none")
    static void promise04_fault_if_there_is_none() {
        due("of no letter", fresh().fault(), 0);
        due("of one that begins", Tried.typed("a").fault(), 1);
        due("of a NET", Tried.typed("a=b").fault(), 3);
        due("of a NET of 80", Tried.typed(EIGHTY).fault(), 80);
        due("of 80 that begin", Tried.typed("(".repeat(80)).fault(), 80);
        Tried x = used();
        due("beside a NET", x.fault(), 5);
        dueAlike("fault() changes nothing", x, used());
    }

    // ---- promise 5: net

    @Says("how many NODES")
    static void promise05_net_of_none_to_30_NODES() {
        due("none", Tried.typed("a=b").net(), 0);
        due("one", Tried.typed("a=*").net(), 1);
        due("29", Tried.typed(pairs(14) + ",a=*").net(), 29);
        due("30", Tried.typed(pairs(15)).net(), 30);
        due("31", Tried.typed(pairs(15) + ",a=*").net(), STATE);
        due("40", Tried.typed(pairs(20)).net(), STATE);
        due("52", Tried.typed("*=" + chain(25)).net(), STATE);
    }

    @Says("THE PAGE is read as THE NET (another one is gone, with all that was)")
    static void promise05_net_another_one_is_gone_with_all_that_was() {
        Tried used = typedInstead(used(), "a=b");
        due("net()", used.net(), 0);
        dueCounts(used, 0, 0, 0, 0, 0, 2, 0, 0, 0, 0, 0, 0, 0, 0, 2);
        due("its IMAGE", used.restore(), STATE);
        due("its IMAGE", used.same(), STATE);
        Tried full = full();
        due("net()", full.net(), 26);
        dueCounts(full, 26, 23, 3, 0, 0, 0, 8, 10, 0, 0, 0, 0, 0, 0, 2);
        for (int node = 26; node < 60; node++) {
            due("a NODE that was", full.node(node, 0), UNKNOWN);
        }
        due("an OPEN WIRE that was", full.open(1), UNKNOWN);
        Tried tried = Tried.of("(ab)=[cd],*=*,*=(ef)");
        tried.ending(0);
        tried.runs(60, 0, 0);
        tried.type("a=b").net();
        dueCounts(tried, 0, 0, 0, 0, 0, 2, 0, 0, 0, 0, 0, 0, 0, 0, 2);
        Tried seen = Tried.of("(ab)=[cd]");
        seen.see(0, 0, 5);
        seen.type("(ab)=[cd]").net();
        due("SEEN of a NODE of the same number", seen.node(0, 5), 14);
    }

    private static Tried typedInstead(Tried x, String text) {
        x.blank();
        return x.type(text);
    }

    @Says("THE PAGE is empty then")
    static void promise05_net_THE_PAGE_is_empty_then() {
        Tried x = Tried.of("a=b");
        due("count(13)", x.count(13), 0);
        due("fault()", x.fault(), 0);
        due("net() again", x.net(), STATE);
        due("it is there yet", x.count(5), 2);
        due("blank()", x.blank(), 0);
    }

    @Says("STATE: it is none")
    static void promise05_STATE_it_is_none() {
        String[] texts = {"", "a", "a=", "a=b,", "a=b,c", "a=b,c=", "(", "(ab", "(ab)", "(ab)=[cd", "a=b=", "a=a,a=b", "=", "i=j", "a=(",
            "a=b)", pairs(16), "a=" + chain(15), "(".repeat(80), "*=" + chain(25), EIGHTY.substring(0, 79) + "i"};
        for (String text : texts) {
            refused("net() of " + text, STATE, Tried::net, () -> Tried.typed(text), () -> typedInstead(bare(), text),
                () -> typedInstead(used(), text), () -> typedInstead(full(), text));
        }
        Tried x = Tried.typed("a=");
        due("begun", x.net(), STATE);
        x.letter('b');
        due("and at its end", x.net(), 0);
    }

    // ---- promise 6: node

    @Says("Of a NODE: what = 0 KIND, 1 to 3 the PLACE at the other end of the WIRE at its HEAD, LEFT, RIGHT (NONE: an END has none such)")
    static void promise06_what_0_to_3_NONE_an_END_has_none_such() {
        Tried x = Tried.of("*=(aa),[gh]=b,{c*}=d,e=(ef)");
        dueNode(x, 0, 0, 3, NONE, NONE, 1);
        dueNode(x, 1, 1, 0, 5, 4, 0);
        dueNode(x, 2, 2, 901, 906, 907, NONE);
        dueNode(x, 3, 3, 903, 902, 12, NONE);
        dueNode(x, 4, 0, 11, NONE, NONE, NONE);
        dueNode(x, 5, 1, 16, 15, 905, NONE);
        // ENDS that have the number of a BRACKET that was.
        Tried vanished = Tried.of("(ab)=(cd)");
        vanished.meet(0);
        due("stop(0)", vanished.stop(0), 0);
        dueNode(vanished, 0, 0, 903, NONE, NONE, NONE);
        Tried restored = Tried.of("(ab)=[cd],e=f");
        restored.image();
        restored.meet(0);
        restored.restore();
        due("stop(4)", restored.stop(4), 2);
        dueNode(restored, 2, 0, 905, NONE, NONE, NONE);
    }

    @Says("4 the NODE that it MEETS (NONE)")
    static void promise06_what_4_whom_it_MEETS_or_NONE() {
        Tried x = Tried.of("*=*,a=*,(*b)=c,d=(de)");
        due("the first", x.node(0, 4), 1);
        due("the other one", x.node(1, 4), 0);
        due("at an OPEN WIRE", x.node(2, 4), NONE);
        due("at a LEFT", x.node(4, 4), NONE);
        due("with an OPEN WIRE at its HEAD", x.node(3, 4), NONE);
        due("at its own LEFT", x.node(5, 4), NONE);
        Tried last = Tried.of(pairs(15));
        due("the last", last.node(29, 4), 28);
        due("the last but one", last.node(28, 4), 29);
    }

    @Says({"5 KINDS, as bits, 6 ASK (NONE", "for both: an END: NONE"})
    static void promise06_what_5_and_6_of_an_END_and_of_none() {
        Tried x = Tried.of("(ab)=*");
        due("an END: KINDS", x.node(1, 5), NONE);
        due("an END: ASK", x.node(1, 6), NONE);
        due("a BRACKET: KINDS", x.node(0, 5), 14);
        due("a BRACKET: ASK", x.node(0, 6), 0);
        x.see(0, 0, 60);
        due("no KINDS left", x.node(0, 5), 0);
        due("no KINDS left: ASK", x.node(0, 6), NONE);
        due("an END still: KINDS", x.node(1, 5), NONE);
        Tried y = used();
        y.node(0, 5);
        y.node(0, 6);
        dueAlike("KINDS and ASK change nothing", y, used());
    }

    @Says("UNKNOWN")
    static void promise06_UNKNOWN_a_number_that_no_NODE_has() {
        for (int node : WRONG_NODES) {
            for (int what : new int[] {0, 6, -1, 7}) {
                refused("node(" + node + ", " + what + ")", UNKNOWN, x -> x.node(node, what), ALL);
            }
        }
        refused("node(0, 0) without a NET", UNKNOWN, x -> x.node(0, 0), WITHOUT_NET);
        refused("node(0, 0) without a NODE", UNKNOWN, x -> x.node(0, 0), Edges::bare);
        Tried x = Tried.of("*=*,*=a");
        due("the last number", x.node(2, 0), 0);
        due("the next one", x.node(3, 0), UNKNOWN);
        x.meet(0);
        due("one that vanished", x.node(0, 0), UNKNOWN);
        due("the other one that vanished", x.node(1, 0), UNKNOWN);
        due("one that stays", x.node(2, 0), 0);
        due("the 60th", full().node(59, 0), 2);
        due("the 61st", full().node(60, 0), UNKNOWN);
    }

    @Says("UNKNOWN; OUTSIDE")
    static void promise06_OUTSIDE_what_0_to_6() {
        for (int what : new int[] {LEAST, -1, 7, 8, MOST}) {
            for (int node : new int[] {0, 2}) {
                refused("node(" + node + ", " + what + ")", OUTSIDE, x -> x.node(node, what), Edges::used, Edges::full);
            }
        }
        due("node(0, 0)", used().node(0, 0), 1);
        due("node(3, 6)", used().node(3, 6) >= NONE ? 1 : 0, 1);
        refused("node(60, 7), both", UNKNOWN, x -> x.node(60, 7), ALL);
    }

    // ---- promise 7: as

    @Says({"A NODE taken as what = 0 a NODE, 1 an END, 2 a BRACKET, 3 a SQUARE (CURLED ones are SQUARE, too, so taken), 4 a CURLED one: "
        + "its number", "NONE: it is none such (the cast fails)"})
    static void promise07_as_each_KIND_or_NONE() {
        Tried x = Tried.of("*=(a[b{cd}])");
        int[][] want = {{0, 0, NONE, NONE, NONE}, {1, NONE, 1, NONE, NONE}, {2, NONE, 2, 2, NONE}, {3, NONE, 3, 3, 3}};
        for (int node = 0; node < 4; node++) {
            for (int what = 0; what < 5; what++) {
                due("as(" + node + ", " + what + ")", x.as(node, what), want[node][what]);
            }
        }
        x.change(3, 2);
        due("a CURLED one no more", x.as(3, 4), NONE);
        due("the 60th", full().as(59, 3), 59);
    }

    @Says("UNKNOWN")
    static void promise07_UNKNOWN_a_number_that_no_NODE_has() {
        for (int node : WRONG_NODES) {
            for (int what : new int[] {0, 4, -1, 5}) {
                refused("as(" + node + ", " + what + ")", UNKNOWN, x -> x.as(node, what), ALL);
            }
        }
        refused("as(0, 0)", UNKNOWN, x -> x.as(0, 0), Edges::fresh, Edges::justTyped, Edges::bare);
        Tried x = Tried.of("*=*,*=a");
        x.meet(0);
        due("one that vanished", x.as(1, 0), UNKNOWN);
        due("one that stays", x.as(2, 0), 2);
        due("the next number", x.as(3, 0), UNKNOWN);
    }

    @Says("UNKNOWN; OUTSIDE")
    static void promise07_OUTSIDE_what_0_to_4() {
        for (int what : new int[] {LEAST, -1, 5, 6, MOST}) {
            for (int node : new int[] {0, 2}) {
                refused("as(" + node + ", " + what + ")", OUTSIDE, x -> x.as(node, what), Edges::used, Edges::full);
            }
        }
        due("as(0, 0)", used().as(0, 0), 0);
        due("as(3, 4)", used().as(3, 4), 3);
    }

    // ---- promise 8: open

    @Says("The PLACE at the other end of an OPEN WIRE.")
    static void promise08_open_tells_each_sort_of_PLACE() {
        Tried x = Tried.of("a=*,(bc)=d,e=h");
        int[] want = {0, 4, 5, 3, 907, UNKNOWN, UNKNOWN, 904};
        for (int wire = 0; wire < 8; wire++) {
            due("open(" + wire + ")", x.open(wire), want[wire]);
        }
    }

    @Says("UNKNOWN: wire (0 to 7; one that is OPEN)")
    static void promise08_UNKNOWN_wire_0_to_7_that_is_OPEN() {
        Tried all = Tried.of("a=b,c=d,e=f,g=h");
        due("open(0)", all.open(0), 901);
        due("open(7)", all.open(7), 906);
        for (int wire : new int[] {LEAST, -1, 8, 9, 15, 16, 97, 900, 907, MOST}) {
            due("open(" + wire + ")", all.open(wire), UNKNOWN);
            refused("open(" + wire + ")", UNKNOWN, x -> x.open(wire), ALL);
        }
        refused("open(0) of none", UNKNOWN, x -> x.open(0), Edges::fresh, Edges::justTyped, Edges::bare);
        refused("open(7) of none", UNKNOWN, x -> x.open(7), Edges::fresh, Edges::bare, Edges::full);
        refused("open(4), joined", UNKNOWN, x -> x.open(4), Edges::used);
        Tried gone = Tried.of("a=b,c=d,(ef)=*");
        gone.join(0, 2);
        due("a, joined", gone.open(0), UNKNOWN);
        due("c, joined", gone.open(2), UNKNOWN);
        due("b, at the other end", gone.open(1), 903);
        gone.stop(1);
        due("b, stopped", gone.open(1), UNKNOWN);
        gone.meet(0);
        due("e, still OPEN", gone.open(4) % 3, 0);
        due("g, never there", gone.open(6), UNKNOWN);
    }
}
