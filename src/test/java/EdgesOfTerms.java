/** The boundary cases that 'Terms' names. What is due was found by hand from the document. */
public final class EdgesOfTerms extends Edges {
    public static void main(String[] args) {
        runAll(EdgesOfTerms.class, TERMS);
    }

    // ---- 1 the net

    @Says("A NODE is an END, which has a HEAD alone, or a BRACKET, which has a HEAD, a LEFT and a RIGHT")
    static void terms_an_END_has_a_HEAD_alone() {
        Tried x = Tried.of("a=*,(bc)=d");
        dueNode(x, 0, 0, 900, NONE, NONE, NONE);
        dueNode(x, 1, 1, 903, 901, 902, NONE);
    }

    @Says("each of these is at one end of a WIRE.")
    static void terms_each_HEAD_LEFT_and_RIGHT_is_at_one_end_of_a_WIRE() {
        Tried x = Tried.of("([ab]*)={{ba}[cd]},d=(ef)");
        // Six BRACKETS, each at the ends of three WIRES, and an END.
        int[][] ends = {{0, 0}, {0, 1}, {0, 2}, {1, 0}, {1, 1}, {1, 2}, {2, 0}, {3, 0}, {3, 1}, {3, 2}, {4, 0}, {4, 1}, {4, 2},
            {5, 0}, {5, 1}, {5, 2}, {6, 0}, {6, 1}, {6, 2}};
        for (int[] end : ends) {
            int there = x.node(end[0], 1 + end[1]);
            int back = there >= 900 ? x.open(there - 900) : x.node(there / 3, 1 + there % 3);
            due("and back from " + there, back, 3 * end[0] + end[1]);
        }
    }

    @Says("KINDS are 0 END, 1 ROUND, 2 SQUARE, 3 CURLED")
    static void terms_KINDS_are_0_to_3() {
        Tried x = Tried.of("a=*,(bc)=(de),[fg]=[**],{h*}={**}");
        int[] kinds = {0, 1, 1, 2, 2, 0, 0, 3, 0, 3, 0, 0};
        for (int node = 0; node < kinds.length; node++) {
            due("node(" + node + ", 0)", x.node(node, 0), kinds[node]);
        }
    }

    @Says("A PLACE is a number: 3 times the NODE, and 0 for its HEAD, 1 for its LEFT, 2 for its RIGHT")
    static void terms_a_PLACE_of_a_NODE_is_0_to_179() {
        Tried first = Tried.of("a=(bc)");
        due("the HEAD of the first", first.open(0), 0);
        due("the LEFT of the first", first.open(1), 1);
        due("the RIGHT of the first", first.open(2), 2);
        Tried last = Tried.of(pairs(14) + ",*=(ab)");
        due("the LEFT of the 30th", last.open(0), 88);
        due("the RIGHT of the 30th", last.open(1), 89);
        // The so-manieth COPYING makes the NODES 0 and 2n - 2 of x, 2n and 2n + 1 of y; 0 and 2n MEET.
        Tried most = Tried.of("(ab)=[ac]");
        most.run(29);
        due("the RIGHT of the 60th", most.node(56, 3), 179);
        due("the HEAD of the 60th", most.node(57, 2), 177);
        dueNode(most, 59, 2, 172, 2, 170, NONE);
    }

    @Says({"or 900, and 0 to 7 for an OPEN WIRE a to h", "which no NODE is at the end of."})
    static void terms_a_PLACE_of_an_OPEN_WIRE_is_900_to_907() {
        Tried x = Tried.of("(ah)=*,b=c,g=f");
        due("a", x.node(0, 2), 900);
        due("h", x.node(0, 3), 907);
        due("at b", x.open(1), 902);
        due("at c", x.open(2), 901);
        due("at g", x.open(6), 905);
    }

    private static void dueText(String text, int fault, int net) {
        due("fault() of " + text, Tried.typed(text).fault(), fault);
        due("net() of " + text, Tried.typed(text).net(), net);
    }

    /** No letter of it is wrong, but it is not at its end. */
    private static void dueBegun(String text) {
        dueText(text, text.length(), STATE);
    }

    private static void dueNet(String text, int nodes) {
        dueText(text, text.length(), nodes);
    }

    private static void dueWrong(String text, int fault) {
        dueText(text, fault, STATE);
    }

    @Says("A NET is a text of one PAIR, or more, with \",\" between")
    static void terms_a_NET_is_of_one_PAIR_or_more() {
        dueBegun("");
        dueNet("a=b", 0);
        dueNet("a=b,c=d", 0);
        dueNet("a=b,c=d,e=f,g=h", 0);
        dueNet("a=a,b=b,c=c,d=d,e=e,f=f,g=g,h=h," + pairs(12), 24);
        dueNet(EIGHTY, 26);
        dueBegun("a=b,");
        dueWrong(",a=b", 0);
        dueWrong("a=b,,c=d", 4);
        dueWrong("a=bc=d", 3);
        dueWrong("a=b;c=d", 3);
        dueWrong("a=b, c=d", 4);
        dueWrong("a=b ", 3);
        dueWrong(" a=b", 0);
    }

    @Says("a PAIR is a TREE, \"=\", a TREE")
    static void terms_a_PAIR_is_two_TREES() {
        dueBegun("a");
        dueBegun("a=");
        dueBegun("*");
        dueBegun("(ab)");
        dueBegun("(ab)=");
        dueBegun("a=b,c");
        dueBegun("a=b,c=");
        dueNet("*=*", 2);
        dueNet("*=a", 1);
        dueNet("a=*", 1);
        dueWrong("=a", 0);
        dueWrong("a==b", 2);
        dueWrong("a=b=c", 3);
        dueWrong("a,b=c", 1);
        dueWrong("a=,", 2);
        dueWrong("ab=c", 1);
        dueWrong("a*", 1);
        dueWrong("**", 1);
        dueWrong("(ab)c", 4);
    }

    @Says("the WIRES of both are one")
    static void terms_the_WIRES_of_both_are_one() {
        due("two letters", Tried.of("a=h").open(0), 907);
        due("a letter and a HEAD", Tried.of("h=*").open(7), 0);
        due("two HEADS", Tried.of("*=(**)").node(0, 1), 3);
        Tried through = Tried.of("a=b,b=c,c=d,d=e,e=f,f=g,g=h,*=h");
        due("seven letters between", through.open(0), 0);
        due("and the other way", through.node(0, 1), 900);
        due("one that is OPEN", through.count(5), 1);
    }

    @Says({"A TREE is \"*\" (the HEAD of an END), or",
        "(the HEAD of a ROUND one, a SQUARE, a CURLED one, with what is at its LEFT, then its RIGHT)"})
    static void terms_a_TREE_is_the_HEAD_with_LEFT_then_RIGHT_in_it() {
        due("the HEAD of an END", Tried.of("a=*").open(0), 0);
        String[] signs = {"", "()", "[]", "{}"};
        for (int kind = 1; kind <= 3; kind++) {
            char open = signs[kind].charAt(0);
            char close = signs[kind].charAt(1);
            Tried x = Tried.of("a=" + open + "bc" + close);
            dueNode(x, 0, kind, 900, 901, 902, NONE);
            Tried inside = Tried.of("a=" + open + "*" + open + "b*" + close + close);
            dueNode(inside, 0, kind, 900, 3, 6, NONE);
            dueNode(inside, 1, 0, 1, NONE, NONE, NONE);
            dueNode(inside, 2, kind, 2, 901, 9, NONE);
            dueNode(inside, 3, 0, 8, NONE, NONE, NONE);
        }
    }

    @Says("\"(\", a TREE, a TREE, \")\", or so \"[\" \"]\", \"{\" \"}\"")
    static void terms_a_BRACKET_has_two_TREES_and_its_own_sign_behind() {
        String[] opening = {"(", "[", "{"};
        String[] closing = {")", "]", "}"};
        for (int kind = 0; kind < 3; kind++) {
            String open = opening[kind];
            dueBegun(open);
            dueBegun(open + "a");
            dueBegun(open + "ab");
            dueWrong(open + closing[kind], 1);
            dueWrong(open + "a" + closing[kind], 2);
            dueWrong(open + "abc", 3);
            dueWrong(open + "ab*" + closing[kind], 3);
            dueWrong(open + "ab=", 3);
            dueWrong(open + "a,", 2);
            for (int other = 0; other < 3; other++) {
                String text = open + "ab" + closing[other] + "=c";
                if (other == kind) {
                    dueNet(text, 1);
                } else {
                    dueWrong(text, 3);
                    dueWrong("a=" + open + opening[other] + "bc" + closing[kind], 6);
                }
            }
            dueWrong(closing[kind], 0);
            dueWrong("a=b" + closing[kind], 3);
            dueWrong("*" + closing[kind], 1);
        }
        dueWrong("(ab))=c", 4);
        dueWrong("(*)=a", 2);
    }

    @Says("or a letter \"a\" to \"h\", a WIRE")
    static void terms_a_letter_is_a_to_h() {
        dueNet("a=*", 1);
        dueNet("h=*", 1);
        for (String other : new String[] {"`", "i", "z", "A", "H", "@", "0", "7", " ", "~"}) {
            dueWrong(other + "=*", 0);
            dueWrong("*=" + other, 2);
            dueWrong("(" + other, 1);
        }
    }

    @Says({"who has that letter a second time is at the other end of it", "a third one there cannot be"})
    static void terms_a_letter_a_third_time_there_cannot_be() {
        for (char c = 'a'; c <= 'h'; c++) {
            String letter = String.valueOf(c);
            dueNet(letter + "=" + letter, 0);
            dueNet("(" + letter + letter + ")=*", 2);
            dueWrong(letter + "=" + letter + "," + letter + "=*", 4);
            dueWrong("(" + letter + letter + ")=" + letter, 5);
            dueWrong("*=(" + letter + "[" + letter + letter + "])", 6);
        }
        Tried x = Tried.of("(ab)=[ba]");
        due("at the other end of a", x.node(0, 2), 5);
        due("at the other end of b", x.node(0, 3), 4);
    }

    @Says("A letter that is there but once is an OPEN WIRE.")
    static void terms_a_letter_there_but_once_is_OPEN() {
        Tried x = Tried.of("a=(bb)");
        due("a, once", x.open(0), 0);
        due("b, twice", x.open(1), UNKNOWN);
        due("c, never", x.open(2), UNKNOWN);
        due("one is OPEN", x.count(5), 1);
        due("none is OPEN", Tried.of("*=(aa)").count(5), 0);
        due("all are OPEN", Tried.of("a=b,c=d,e=f,g=h").count(5), 8);
    }

    @Says("NODES are numbered in the order of their first signs")
    static void terms_NODES_are_numbered_by_their_first_signs() {
        Tried x = Tried.of("([**]{*a})=*");
        int[] kinds = {1, 2, 0, 0, 3, 0, 0};
        for (int node = 0; node < kinds.length; node++) {
            due("node(" + node + ", 0)", x.node(node, 0), kinds[node]);
        }
        due("the next number", x.node(kinds.length, 0), UNKNOWN);
    }

    @Says("there can be 30 of them at most (else it is no NET)")
    static void terms_30_NODES_at_most() {
        dueNet(pairs(15), 30);
        dueNet(pairs(14) + ",a=*", 29);
        dueBegun(pairs(15) + ",*=a");
        dueBegun(pairs(16));
        dueNet("*=" + chain(14), 30);
        dueBegun("a=" + chain(15));
        // As many BRACKETS as there can be: 22, with all letters twice, and 8 ENDS.
        String leaves = "aabbccddeeffgghh*******";
        StringBuilder comb = new StringBuilder("(".repeat(22)).append(leaves.charAt(0));
        for (int i = 1; i < leaves.length(); i++) {
            comb.append(leaves.charAt(i)).append(')');
        }
        dueNet("*=" + comb, 30);
        dueBegun("*=" + comb.toString().replaceFirst("a", "*"));
        refused("net() of 31", STATE, Tried::net, () -> Tried.typed("a=" + chain(15)), () -> typedInstead(used(), "a=" + chain(15)));
    }

    private static Tried typedInstead(Tried x, String text) {
        x.blank();
        return x.type(text);
    }

    @Says("If a WIRE is at no NODE, nor OPEN, it is a RING.")
    static void terms_a_WIRE_at_no_NODE_nor_OPEN_is_a_RING() {
        due("a=a", Tried.of("a=a").count(6), 1);
        due("a=b", Tried.of("a=b").count(6), 0);
        due("a=b,b=c", Tried.of("a=b,b=c").count(6), 0);
        due("a=b,b=a", Tried.of("a=b,b=a").count(6), 1);
        due("a=b,a=b", Tried.of("a=b,a=b").count(6), 1);
        due("*=a,*=a", Tried.of("*=a,*=a").count(6), 0);
        due("(aa)=*", Tried.of("(aa)=*").count(6), 0);
        due("eight", Tried.of("a=a,b=b,c=c,d=d,e=e,f=f,g=g,h=h").count(6), 8);
        due("eight letters, one", Tried.of("a=b,b=c,c=d,d=e,e=f,f=g,g=h,h=a").count(6), 1);
        due("seven letters and an OPEN end", Tried.of("a=b,b=c,c=d,d=e,e=f,f=g,g=h").count(6), 0);
    }

    @Says("At first there is no NET.")
    static void terms_at_first_there_is_no_NET() {
        due("meetings(0)", fresh().meetings(0), STATE);
        due("with a text typed", justTyped().meetings(0), STATE);
        due("with a NET of nothing but a RING", bare().meetings(0), 0);
    }

    // ---- 1 meetings

    @Says("Two NODES MEET, if one WIRE is at the HEADS of both")
    static void terms_MEET_are_those_with_one_WIRE_at_both_HEADS() {
        due("HEAD and HEAD", Tried.of("*=*").meetings(0), 1);
        due("HEAD and HEAD, by letters", Tried.of("a=*,b=*,a=b").meetings(0), 1);
        due("HEAD and an OPEN WIRE", Tried.of("*=a").meetings(0), 0);
        due("HEAD and a LEFT", Tried.of("a=(*b)").meetings(0), 0);
        due("HEAD and a RIGHT", Tried.of("a=(b*)").meetings(0), 0);
        due("HEAD and its own LEFT", Tried.of("a=(ab)").meetings(0), 0);
        due("HEAD and its own RIGHT", Tried.of("a=(ba)").meetings(0), 0);
        due("LEFT and LEFT", Tried.of("(ab)=c,(ad)=e").meetings(0), 0);
        due("LEFT and RIGHT", Tried.of("(aa)=b").meetings(0), 0);
    }

    @Says("that is a MEETING, told by its NODES' lesser number; MEETINGS are in the order of these")
    static void terms_MEETINGS_are_told_in_the_order_of_lesser_numbers() {
        Tried x = Tried.of("a=*,b=*,c=*,c=*,b=*,a=*");
        for (int i = 0; i < 3; i++) {
            due("meetings(" + (10 + i) + ")", x.meetings(10 + i), i);
            due("node(" + i + ", 4)", x.node(i, 4), 5 - i);
        }
        x.meet(0);
        due("the first now", x.meetings(10), 1);
        // 2 and 3 go, and the ENDS that come at the BRACKET's sides are 0 and 1: before what was there.
        Tried y = Tried.of("*=*,*=[aa],*=*");
        y.meet(0);
        y.meet(0);
        due("those that came", y.meetings(10), 0);
        due("those that were there", y.meetings(11), 4);
    }

    @Says("When it is done both vanish, with the WIRE between them, and: two ENDS, nothing else")
    static void terms_two_ENDS_vanish_and_nothing_else() {
        Tried x = Tried.of("*=*");
        due("meet(0)", x.meet(0), 1);
        dueCounts(x, 0, 0, 0, 0, 0, 0, 0, 0, 1, 1, 0, 0, 0, 0, 1);
        due("no number is left", x.node(0, 0), UNKNOWN);
        due("no number is left", x.node(1, 0), UNKNOWN);
    }

    @Says("two alike ones: what was at the LEFT of the one is at one WIRE with what was at the LEFT of the other one, "
        + "RIGHTS likewise")
    static void terms_two_alike_ones_join_LEFTS_and_RIGHTS() {
        for (String text : new String[] {"[ab]=[cd]", "{ab}={cd}"}) {
            Tried x = Tried.of(text);
            due("meet(0) of " + text, x.meet(0), 1);
            due("LEFTS", x.open(0), 902);
            due("RIGHTS", x.open(1), 903);
            due("no NODE", x.count(0), 0);
        }
        Tried loop = Tried.of("[aa]=[bc]");
        loop.meet(0);
        due("by a WIRE from LEFT to RIGHT", loop.open(1), 902);
        due("no RING", loop.count(6), 0);
        Tried between = Tried.of("[ab]=[bc]");
        between.meet(0);
        due("by a WIRE from the one to the other", between.open(0), 902);
    }

    @Says("of two ROUND ones crosswise: LEFT with RIGHT")
    static void terms_two_ROUND_ones_join_crosswise() {
        Tried x = Tried.of("(ab)=(cd)");
        due("meet(0)", x.meet(0), 1);
        due("LEFT with RIGHT", x.open(0), 903);
        due("RIGHT with LEFT", x.open(1), 902);
        Tried between = Tried.of("(ab)=(ac)");
        between.meet(0);
        due("by a WIRE from LEFT to LEFT", between.open(1), 902);
        due("no RING", between.count(6), 0);
    }

    @Says("an END and a BRACKET: a new END comes where its LEFT was, and one where its RIGHT was (HEAD for it)")
    static void terms_an_END_eats_a_BRACKET_of_any_KIND() {
        for (String text : new String[] {"(ab)=*", "[ab]=*", "{ab}=*", "*=(ab)", "*=[ab]", "*={ab}"}) {
            Tried x = Tried.of(text);
            due("meet(0) of " + text, x.meet(0), 3);
            dueNode(x, 0, 0, 900, NONE, NONE, NONE);
            dueNode(x, 1, 0, 901, NONE, NONE, NONE);
            due("NODES", x.count(0), 2);
        }
        Tried loop = Tried.of("*=(aa)");
        loop.meet(0);
        due("both ENDS at one WIRE", loop.node(0, 4), 1);
        due("no RING", loop.count(6), 0);
        due("two ENDS then", loop.meet(0), 1);
        due("no RING", loop.count(6), 0);
    }

    @Says({"two BRACKETS of unlike KINDS, x (of the lesser number) and y: two x come where the LEFT and the RIGHT of y were",
        "two y where the LEFT and the RIGHT of x were (HEADS for these)",
        "the LEFT and RIGHT of the first x are at the LEFTS of the first and the second y, "
        + "the LEFT and RIGHT of the second x at their RIGHTS"})
    static void terms_two_unlike_BRACKETS_copy_each_other() {
        String[] signs = {"", "()", "[]", "{}"};
        for (int x = 1; x <= 3; x++) {
            for (int y = 1; y <= 3; y++) {
                if (x != y) {
                    dueCopied(Tried.of(signs[x].charAt(0) + "ab" + signs[x].charAt(1) + "="
                        + signs[y].charAt(0) + "cd" + signs[y].charAt(1)), x, y);
                }
            }
        }
        Tried loops = Tried.of("(aa)=[bb]");
        loops.meet(0);
        due("both x at one WIRE", loops.node(0, 4), 1);
        due("both y at one WIRE", loops.node(2, 4), 3);
        Tried crossed = Tried.of("(ab)=[ba]");
        crossed.meet(0);
        due("x at y's LEFT, y at x's RIGHT", crossed.node(0, 4), 3);
        due("x at y's RIGHT, y at x's LEFT", crossed.node(1, 4), 2);
    }

    private static void dueCopied(Tried net, int x, int y) {
        due("meet(0)", net.meet(0), 2);
        dueNode(net, 0, x, 902, 7, 10, NONE);
        dueNode(net, 1, x, 903, 8, 11, NONE);
        dueNode(net, 2, y, 900, 1, 4, NONE);
        dueNode(net, 3, y, 901, 2, 5, NONE);
        due("NODES", net.count(0), 4);
    }

    @Says("New NODES have the least numbers that are free then, in the order in which they are told here (both x first)")
    static void terms_new_NODES_have_the_least_free_numbers() {
        Tried eaten = Tried.of("*=*,(ab)=*");
        eaten.meet(0);
        due("EATING with 0 and 1 free", eaten.meet(0), 3);
        due("the END at its LEFT", eaten.open(0), 0);
        due("the END at its RIGHT", eaten.open(1), 3);
        due("the numbers that it had", eaten.node(2, 0), UNKNOWN);
        Tried copied = Tried.of("*=*,a=*,(bc)=[de]");
        copied.meet(0);
        due("COPYING with 0 and 1 free", copied.meet(0), 2);
        due("the first x, where LEFT of y was", copied.open(3), 0);
        due("the second x, where RIGHT of y was", copied.open(4), 3);
        due("the first y, where LEFT of x was", copied.open(1), 9);
        due("the second y, where RIGHT of x was", copied.open(2), 12);
        due("one between stays", copied.open(0), 6);
        Tried one = Tried.of("*=*,(ab)=[cd],e=f");
        one.meet(0);
        due("stop(4)", one.stop(4), 0);
        due("COPYING with 1 free", one.meet(0), 2);
        due("the first x", one.open(2), 3);
        due("the second x", one.open(3), 6);
        due("the first y", one.open(0), 9);
        due("the second y", one.open(1), 12);
    }

    @Says("A WIRE that has nobody at its ends any more is a RING.")
    static void terms_a_WIRE_with_nobody_at_its_ends_is_a_RING() {
        String[] texts = {"[ab]=[cd]", "[ab]=[ac]", "[ab]=[cb]", "[ab]=[ab]", "[ab]=[ba]", "[aa]=[bb]", "[aa]=[bc]", "(ab)=(cd)",
            "(ab)=(ab)", "(ab)=(ba)", "(aa)=(bb)", "(ab)=(ca)", "(ab)=(ac)", "{ab}={ab}", "{ab}={ba}"};
        int[] rings = {0, 1, 1, 2, 1, 1, 0, 0, 1, 2, 1, 1, 0, 2, 1};
        for (int i = 0; i < texts.length; i++) {
            Tried x = Tried.of(texts[i]);
            x.meet(0);
            due("RINGS of " + texts[i], x.count(6), rings[i]);
            due("NODES of " + texts[i], x.count(0), 0);
        }
    }

    // ---- 2 the ending

    /** 28 COPYING, then each of the 8 ENDS eats 4 SQUARE ones; 75 NODES are left. */
    private static final String SIXTY = "(((((((**)*)*)*)*)*)*)=[[[[ab]c]d]e]";

    @Says("ENDING is what comes of it, if all MEETINGS are done, one behind the other, till there are none: "
        + "60 at most (else there is none)")
    static void terms_an_ENDING_has_60_MEETINGS_at_most() {
        dueEnding(Tried.of("a=b"), 0, 0, 0, 0, 0, 0, 0);
        dueEnding(bare(), 0, 0, 0, 0, 0, 0, 1);
        Tried sixty = Tried.of(SIXTY);
        due("60: in all", sixty.ending(0), 60);
        due("60: ALIKE", sixty.ending(1), 0);
        due("60: COPYING", sixty.ending(2), 28);
        due("60: EATING", sixty.ending(3), 32);
        due("60: NODES", sixty.ending(5), 75);
        Tried more = Tried.of(SIXTY + ",*=*");
        dueNoEnding(more);
        due("61: the last done", more.meet(1), 1);
        due("60 again", more.ending(0), 60);
        dueNoEnding(Tried.of("(ab)=[ab]"));
    }

    /** Found by a search: 60 NODES, and 60 COPYINGS that end. */
    private static Tried fullest() {
        Tried x = Tried.of("(e*)=(a[({fg}[(a(c*))e])d]),{{[[{h*}*]c]d}[*b]}=[f[b(gh)]]");
        x.change(9, 2);
        x.join(4, 5);
        x.run(55);
        x.change(59, 3);
        x.run(14);
        x.flip(5);
        x.run(47);
        x.flip(19);
        return x;
    }

    @Says("60 at most (else there is none)")
    static void terms_an_ENDING_is_limited_by_its_MEETINGS_not_by_NODES() {
        Tried x = fullest();
        due("NODES", x.count(0), 60);
        due("MEETINGS", x.ending(0), 60);
        due("COPYING", x.ending(2), 60);
        due("NODES left", x.ending(5), 180);
    }

    @Says("In whatever order that is done, as many are done, of each sort")
    static void terms_in_whatever_order_as_many_are_done() {
        String[] texts = {"(*[ab])=[(c*){de}],*=*", "{(aa)b}=[c(d*)],(*e)=(*f)", "[(a*)*]={(*b)(a*)}", "[ab]=[ab],(**)=(cc)"};
        for (String text : texts) {
            Tried first = Tried.of(text);
            Tried last = Tried.of(text);
            Tried told = Tried.of(text);
            for (int i = 0; i < 60 && first.meetings(0) > 0; i++) {
                first.meet(0);
            }
            for (int i = 0; i < 60 && last.meetings(0) > 0; i++) {
                last.meet(last.meetings(0) - 1);
            }
            for (int sort = 0; sort < 4; sort++) {
                due("first ones, " + sort, first.count(8 + sort), told.ending(sort));
                due("last ones, " + sort, last.count(8 + sort), told.ending(sort));
            }
            due("first ones: NODES", first.count(0), told.ending(5));
            due("last ones: RINGS", last.count(6), told.ending(6));
        }
    }

    @Says("ALIKE (also two ENDS), COPYING, EATING (an END and a BRACKET)")
    static void terms_sorts_of_MEETINGS() {
        dueEnding(Tried.of("*=*"), 1, 1, 0, 0, 1, 0, 0);
        dueEnding(Tried.of("(ab)=(cd)"), 1, 1, 0, 0, 1, 0, 0);
        dueEnding(Tried.of("(ab)=[cd]"), 1, 0, 1, 0, 1, 4, 0);
        dueEnding(Tried.of("(ab)=*"), 1, 0, 0, 1, 1, 2, 0);
        dueEnding(Tried.of("*=(ab)"), 1, 0, 0, 1, 1, 2, 0);
    }

    @Says("ROUNDS: all MEETINGS that there are at once, again and again: how often, till there are none.")
    static void terms_ROUNDS_from_none_to_many() {
        due("none", Tried.of("a=*").ending(4), 0);
        due("one", Tried.of("*=*").ending(4), 1);
        due("15 at once", Tried.of(pairs(15)).ending(4), 1);
        due("ones that come of it are of the next", Tried.of("(**)=(**),*=*").ending(4), 2);
        dueEnding(Tried.of("*=" + chain(14)), 29, 15, 0, 14, 15, 0, 0);
        // As both that MEET are SQUARE then, they vanish; the END goes on through the 28 SQUARE ones at b.
        Tried x = Tried.of("(ab)=[ac]");
        x.run(28);
        x.change(0, 2);
        x.stop(1);
        dueEnding(x, 29, 1, 0, 28, 28, 57, 1);
    }

    @Says("READING: for each OPEN WIRE, in the order of letters, what is there as a TREE, and \";\"")
    static void terms_a_READING_is_of_each_OPEN_WIRE() {
        dueReading(Tried.of("*=*"), "");
        dueReading(bare(), "");
        dueReading(Tried.of("*=h"), "*;");
        dueReading(Tried.of("h=*,g=(**),b=[**],a={**}"), "{**};[**];(**);*;");
        dueReading(Tried.of("a=*,b=*,c=*,d=*,e=*,f=*,g=*,h=*"), "*;*;*;*;*;*;*;*;");
    }

    @Says("who is there by the HEAD is told as in a text")
    static void terms_a_READING_tells_who_is_there_by_the_HEAD() {
        dueReading(Tried.of("a=({**}[**])"), "({**}[**]);");
        dueReading(Tried.of("a=" + chain(14)), chain(14) + ";");
        dueReading(Tried.of("(*a)=*"), "a;");
    }

    @Says({"a WIRE at whose other end is an OPEN one, or a LEFT, or a RIGHT, is told as 97, and how many unlike ones were told ahead",
        "(the same one the same, all over the READING)"})
    static void terms_a_READING_tells_WIRES_from_97_on() {
        dueReading(Tried.of("g=h"), "a;a;");
        dueReading(Tried.of("a=b,c=d,e=f,g=h"), "a;a;b;b;c;c;d;d;");
        dueReading(Tried.of("h=(gg)"), "(aa);");
        dueReading(Tried.of("b=(ch),f=[hc]"), "(ab);[ba];");
        dueReading(Tried.of("(gh)=*"), "a;b;");
        dueReading(Tried.of("a=(ab)"), "a;");
        // 29 SQUARE ones at b and as many ROUND ones at c, with a WIRE from each to each: 31 in all.
        Tried far = Tried.of("(ab)=[ac]");
        far.run(29);
        StringBuilder want = new StringBuilder("[".repeat(29)).append('a');
        for (int i = 1; i <= 29; i++) {
            want.append((char) (97 + i)).append(']');
        }
        want.append(';').append("(".repeat(29)).append((char) 127);
        for (int i = 1; i <= 29; i++) {
            want.append((char) (97 + i)).append(')');
        }
        dueReading(far, want.append(';').toString());
    }

    @Says("SAME: two NETS that have ENDINGS, as many RINGS in them, and the same READING of these")
    static void terms_SAME_have_as_many_RINGS_and_the_same_READING() {
        Tried rings = Tried.of("[ab]=[ab]");
        rings.image();
        due("2 RINGS and 2", rings.same(), 1);
        rings.flip(0);
        due("2 RINGS and 1", rings.same(), 0);
        rings.flip(1);
        due("2 RINGS and 2 again", rings.same(), 1);
        rings.meet(0);
        due("they are there already", rings.same(), 1);
        Tried signs = Tried.of("a=(b*),c=d");
        signs.image();
        due("the same READING", signs.same(), 1);
        signs.change(0, 2);
        due("one sign is another one", signs.same(), 0);
        signs.change(0, 1);
        signs.flip(0);
        due("signs in another order", signs.same(), 0);
    }

    /** Those of THE NET are always among those of its IMAGE, and each has its ";": other ones are fewer. */
    @Says("(and the same OPEN WIRES)")
    static void terms_SAME_have_the_same_OPEN_WIRES() {
        Tried none = Tried.of("*=*");
        none.image();
        none.meet(0);
        due("none and none", none.same(), 1);
        Tried x = Tried.of("a=*,b=*,c=d");
        x.image();
        x.join(0, 1);
        due("2 of 4", x.same(), 0);
        x.image();
        due("2 of 2", x.same(), 1);
        x.stop(2);
        due("1 of 2", x.same(), 0);
        x.restore();
        x.join(2, 3);
        due("none of 2", x.same(), 0);
    }

    // ---- 3 what is seen, runs, images, refusals

    @Says("SEEN (6 at most)")
    static void terms_6_are_SEEN_at_most() {
        Tried x = Tried.of("(ab)=*");
        for (int i = 1; i <= 6; i++) {
            due("see the " + i, x.see(0, 0, 1), i);
        }
        due("see the 7", x.see(0, 0, 1), FULL);
        x.forget();
        due("after forget()", x.see(0, 0, 1), 1);
    }

    @Says("how many MEETINGS (what 0 in all, 1 ALIKE, 2 COPYING, 3 EATING) there are to the ENDING (NONE: there is no ENDING), "
        + "if a BRACKET is of the KIND that it is, which is not known")
    static void terms_SEEN_is_how_many_MEETINGS_or_NONE() {
        // With a SQUARE one at its HEAD: as a ROUND or CURLED one it copies for ever.
        for (int what = 0; what < 4; what++) {
            Tried x = Tried.of("(ab)=[ab]");
            x.see(0, what, NONE);
            due("no ENDING, what " + what, x.node(0, 5), 2 + 8);
            Tried y = Tried.of("(ab)=[ab]");
            y.see(0, what, what <= 1 ? 1 : 0);
            due("an ENDING, what " + what, y.node(0, 5), 4);
        }
        // 0 is not NONE.
        Tried z = Tried.of("(ab)=c");
        z.see(0, 0, 0);
        due("0 MEETINGS", z.node(0, 5), 14);
        z.see(0, 0, NONE);
        due("there is an ENDING", z.node(0, 5), 0);
        Tried sixty = Tried.of(SIXTY);
        sixty.see(0, 0, 60);
        due("60 MEETINGS", sixty.node(0, 5) & 2, 2);
        sixty.forget();
        sixty.see(0, 0, NONE);
        due("60 MEETINGS, not none", sixty.node(0, 5) & 2, 0);
    }

    @Says("KINDS (1 to 3) it can be of, all else as it is, so that all that is SEEN of it is so: as bits (2, 4, 8).")
    static void terms_KINDS_as_bits_from_none_to_all() {
        // As a ROUND one 6, 1, 2, 3 there are; as a SQUARE one 3, 2, 0, 1; as a CURLED one 3, 1, 1, 1.
        String text = "[*b]=[{f*}c]";
        int[][] seen = {{0, 6, 2}, {1, 2, 4}, {2, 1, 8}, {0, 3, 4 + 8}, {1, 1, 2 + 8}, {3, 1, 4 + 8}, {0, 5, 0}, {0, NONE, 0}};
        for (int[] each : seen) {
            Tried x = Tried.of(text);
            due("nothing SEEN", x.node(0, 5), 14);
            x.see(0, each[0], each[1]);
            due("see(0, " + each[0] + ", " + each[1] + ")", x.node(0, 5), each[2]);
            due("of another one nothing is SEEN", x.node(2, 5), 14);
            due("the KIND that it is stays", x.node(0, 0), 2);
        }
        Tried both = Tried.of(text);
        both.see(0, 0, 3);
        both.see(0, 1, 1);
        due("all that is SEEN", both.node(0, 5), 8);
        both.see(0, 2, 0);
        due("what cannot be", both.node(0, 5), 0);
    }

    @Says({"ASK for a BRACKET: which of the four to ask about, so that fewest of these are left at worst: of like ones the least",
        "none, if there are none"})
    static void terms_ASK_from_0_to_3_and_none() {
        due("all alike: the least", Tried.of("(ab)=c").node(0, 6), 0);
        Tried one = Tried.of("(ab)=[cd]");
        due("1 parts SQUARE from the others", one.node(0, 6), 1);
        one.see(0, 1, 1);
        due("one left: the least", one.node(0, 6), 0);
        one.see(0, 1, 0);
        due("none left", one.node(0, 6), NONE);
        Tried two = Tried.of("[*b]=[{f*}c]");
        due("2 parts all", two.node(0, 6), 2);
        two.see(0, 1, 1);
        due("0 and 2 part the two left: the least", two.node(0, 6), 0);
        // As a ROUND one 4, 1, 2, 1; as a SQUARE one 4, 1, 1, 2; as a CURLED one 3, 2, 1, 0.
        Tried three = Tried.of("[{af}h]=[[**]e]");
        due("3 parts all", three.node(2, 6), 3);
        three.see(2, 0, 4);
        due("2 and 3 part the two left: the least", three.node(2, 6), 2);
        due("no ENDING parts as well", Tried.of("(ab)=[ab]").node(0, 6), 0);
    }

    @Says({"RUNS by a SEED, as they would be: so many MEETINGS, as long as there are any",
        "how many are done; how many NODES there are at most, at any time; the SEED then"})
    static void terms_RUNS_as_long_as_there_are_any() {
        Tried none = Tried.of("a=*");
        due("none: done", none.runs(60, 7, 0), 0);
        due("none: NODES", none.runs(60, 7, 1), 1);
        due("none: SEED", none.runs(60, 7, 2), 7);
        Tried some = Tried.of("*=*,*=*,(ab)=[cd]");
        due("all three", some.runs(60, 7, 0), 3);
        due("two of them", some.runs(2, 7, 0), 2);
        due("three of them", some.runs(3, 7, 2), some.runs(60, 7, 2));
        due("fewer NODES at the end than at any time", Tried.of("*=*,*=*").runs(60, 7, 1), 4);
        Tried full = Tried.of("(ab)=[ac]");
        full.run(29);
        due("60 of them from 60 NODES", full.runs(60, 7, 0), 60);
        due("two NODES more with each", full.runs(60, 7, 1), 180);
        due("one of them", full.runs(1, 7, 1), 62);
        due("nothing was done", full.count(0), 60);
    }

    @Says("each the one by a DRAW of how many there are, in their order")
    static void terms_RUNS_take_the_one_that_is_drawn() {
        // Of 3 the seeds 0, 5, 1 and the last one draw 0, 1, 2, 2; only COPYING makes more NODES.
        String[] texts = {"(cd)=[ef],*=*,*=*", "*=*,(cd)=[ef],*=*", "*=*,*=*,(cd)=[ef]"};
        int[] seeds = {0, 5, 1, MOST};
        int[] drawn = {0, 1, 2, 2};
        for (int i = 0; i < seeds.length; i++) {
            for (int at = 0; at < 3; at++) {
                due(texts[at] + ": runs(1, " + seeds[i] + ", 1)", Tried.of(texts[at]).runs(1, seeds[i], 1), at == drawn[i] ? 8 : 6);
            }
        }
    }

    @Says("DRAWS: the next SEED each time: 1103515245 times it and 12345, its rest by 2 to the 31; "
        + "then that by 65536 (rounded down), its rest.")
    static void terms_DRAWS_wrap_at_2_to_the_31() {
        Tried x = Tried.of("*=*,*=*");
        due("from 0", x.runs(1, 0, 2), 12345);
        due("from 1, below 2 to the 31", x.runs(1, 1, 2), 1103527590);
        due("from 2, above it", x.runs(1, 2, 2), 59559187);
        due("from the last one", x.runs(1, MOST, 2), 1043980748);
        due("twice from 0", x.runs(2, 0, 2), 1406932606);
        // These have the next SEEDS 65535, 65536, the last below 32767 times that, and just so many.
        int[] seeds = {2032319262, 1742513795, 576240414, 286434947};
        for (int i = 0; i < seeds.length; i++) {
            due("rounded down: " + seeds[i], Tried.of("*=*,(ab)=[cd]").runs(1, seeds[i], 1), i % 2 == 0 ? 4 : 6);
        }
        Tried many = Tried.of("(ab)=[ac]");
        long seed = MOST;
        for (int i = 0; i < 60; i++) {
            seed = (1103515245L * seed + 12345L) % (1L << 31);
        }
        due("60 times from the last one", many.runs(60, MOST, 2), seed);
    }

    @Says("An IMAGE keeps the NET, RINGS, how many MEETINGS of each sort were done, SEEN.")
    static void terms_an_IMAGE_keeps_all_but_THE_PAGE() {
        Tried x = Tried.of("(ab)=[cd],e=e,*=*,*=(fg),h=*");
        x.see(0, 1, 1);
        x.run(1);
        x.image();
        Tried same = Tried.of("(ab)=[cd],e=e,*=*,*=(fg),h=*");
        same.see(0, 1, 1);
        same.run(1);
        same.image();
        x.run(60);
        x.join(0, 1);
        x.join(2, 3);
        x.stop(7);
        x.forget();
        x.flip(firstBracket(x));
        x.change(firstBracket(x), 3);
        due("restore()", x.restore(), 1);
        dueAlike("restored", x, same);
        dueSeenRestored(0, 1, 1, 0, 1, 0);
        dueSeenRestored(0, 1, 1, 0, 2, 1);
        dueSeenRestored(0, 1, 1, 1, 1, 1);
        Tried page = Tried.of("a=b");
        page.image();
        page.letter('a');
        page.restore();
        due("THE PAGE stays", page.count(13), 1);
    }

    /** What was SEEN first is kept; it is forgotten then, and something else SEEN. */
    private static void dueSeenRestored(int node, int what, int much, int otherNode, int otherWhat, int otherMuch) {
        Tried x = Tried.of("(ab)=[cd]");
        x.see(node, what, much);
        int kinds = x.node(0, 5);
        int others = x.node(1, 5);
        x.image();
        x.forget();
        x.see(otherNode, otherWhat, otherMuch);
        due("KINDS change", kinds == x.node(0, 5) && others == x.node(1, 5) ? 1 : 0, 0);
        x.restore();
        due("KINDS restored", x.node(0, 5), kinds);
        due("KINDS of the other one restored", x.node(1, 5), others);
    }

    private static int firstBracket(Tried x) {
        for (int node = 0; node < 60; node++) {
            if (x.as(node, 2) == node) {
                return node;
            }
        }
        return NONE;
    }

    @Says({"Refusals, of several the first as told by each call: UNKNOWN (a number names nothing), OUTSIDE (it is not as told), "
        + "STATE (as told), FULL", "they change nothing"})
    static void terms_refusals_are_the_first_told_and_change_nothing() {
        refused("letter(31) when FULL", OUTSIDE, x -> x.letter(31), Edges::full);
        refused("node(60, 7)", UNKNOWN, x -> x.node(60, 7), ALL);
        refused("as(60, 5)", UNKNOWN, x -> x.as(60, 5), ALL);
        refused("meetings(40)", OUTSIDE, x -> x.meetings(40), ALL);
        refused("run(61)", OUTSIDE, x -> x.run(61), ALL);
        refused("change(60, 4)", UNKNOWN, x -> x.change(60, 4), ALL);
        refused("ending(7)", OUTSIDE, x -> x.ending(7), ALL);
        refused("reading(1000)", OUTSIDE, x -> x.reading(1000), ALL);
        refused("endReading(1000)", OUTSIDE, x -> x.endReading(1000), ALL);
        refused("see(60, 4, 61)", UNKNOWN, x -> x.see(60, 4, 61), ALL);
        refused("see(0, 4, 61) when FULL", OUTSIDE, x -> x.see(0, 4, 61), Edges::full);
        refused("runs(61, -1, 3)", OUTSIDE, x -> x.runs(61, -1, 3), ALL);
        refused("stop(7) when FULL", UNKNOWN, x -> x.stop(7), Edges::full);
        refused("meet(2) when FULL", UNKNOWN, x -> x.meet(2), Edges::full);
    }
}
