/** The boundary cases that promises 9 to 15 name: meetings, and a net changed. */
public final class EdgesOfMeetings extends Edges {
    /** Found by a search: it goes on for ever, but never to more than a few NODES. */
    private static final String LASTING = "[[ab]a]=(*b)";
    private static final int[] WRONG_NODES = {LEAST, -1, 60, 61, 180, MOST};
    private static final int[] WRONG_WIRES = {LEAST, -1, 8, 9, 16, 97, 900, MOST};

    public static void main(String[] args) {
        runAll(EdgesOfMeetings.class, promises(9, 15));
    }

    /**
     * 60 NODES, all of which MEET. Two BRACKETS whose sides are at one WIRE each copy each other, and
     * again so all that come of it at once: 2, 4, 8, 16, 32 of them, beside 28 ENDS. The last are
     * done first, so that the numbers of those before them stay.
     */
    private static Tried crowded() {
        Tried x = Tried.of(pairs(14) + ",(ab)=[ab]");
        for (int many = 1; many <= 8; many *= 2) {
            for (int i = many - 1; i >= 0; i--) {
                x.meet(14 + i);
            }
        }
        return x;
    }

    /** 59 NODES; the first MEETING is COPYING. OPEN are b to f. */
    private static Tried nearlyFull() {
        Tried x = Tried.of("(ab)=[ac],d=*,e=f");
        x.run(28);
        return x;
    }

    // ---- promise 9: meetings

    @Says("MEETINGS there are: what = 0 how many")
    static void promise09_how_many_from_none_to_30() {
        due("without a NODE", bare().meetings(0), 0);
        due("without one that MEETS", Tried.of("a=*").meetings(0), 0);
        due("one", Tried.of("*=*").meetings(0), 1);
        due("15", Tried.of(pairs(15)).meetings(0), 15);
        due("30", crowded().meetings(0), 30);
        due("of so many NODES", crowded().count(0), 60);
    }

    @Says("10 to 39 the so-manieth (NONE: there are not so many)")
    static void promise09_10_to_39_the_so_manieth_or_NONE() {
        Tried none = bare();
        due("none: meetings(10)", none.meetings(10), NONE);
        due("none: meetings(39)", none.meetings(39), NONE);
        Tried half = Tried.of(pairs(15));
        for (int i = 0; i < 15; i++) {
            due("15: meetings(" + (10 + i) + ")", half.meetings(10 + i), 2 * i);
        }
        due("15: meetings(25)", half.meetings(25), NONE);
        due("15: meetings(39)", half.meetings(39), NONE);
        Tried all = crowded();
        int last = -1;
        for (int what = 10; what <= 39; what++) {
            int first = all.meetings(what);
            due("30: meetings(" + what + ") is behind the one ahead", first > last ? 1 : 0, 1);
            due("30: the lesser number of both", all.node(first, 4) > first ? 1 : 0, 1);
            last = first;
        }
        all.meet(0);
        due("29: meetings(38)", all.meetings(38), last);
        due("29: meetings(39)", all.meetings(39), NONE);
    }

    @Says("OUTSIDE")
    static void promise09_OUTSIDE_what_0_or_10_to_39() {
        for (int what : new int[] {LEAST, -1, 1, 5, 9, 40, 41, MOST}) {
            refused("meetings(" + what + ")", OUTSIDE, x -> x.meetings(what), ALL);
        }
    }

    @Says("STATE: no NET")
    static void promise09_STATE_no_NET() {
        for (int what : new int[] {0, 10, 39}) {
            refused("meetings(" + what + ")", STATE, x -> x.meetings(what), WITHOUT_NET);
        }
    }

    // ---- promise 10: meet

    @Says("The so-manieth MEETING is done: 1 ALIKE, 2 COPYING, 3 EATING.")
    static void promise10_the_first_and_the_last_are_done() {
        Tried x = Tried.of("*=*,(ab)=[cd],*=(ef),*=*");
        due("the last", x.meet(3), 1);
        due("its NODES are gone", x.node(7, 0), UNKNOWN);
        due("the first is there yet", x.node(0, 4), 1);
        due("the last now", x.meet(2), 3);
        due("the last now", x.meet(1), 2);
        due("the first", x.meet(0), 1);
        due("none is left", x.meetings(0), 0);
        dueCounts(x, 6, 2, 2, 2, 0, 6, 0, 0, 4, 2, 1, 1, 0, 0, 1);
        Tried all = crowded();
        all.run(1);
        due("the 29th of 29", all.meet(28), 2);
        due("the 31st there cannot be", all.meetings(0) <= 30 ? 1 : 0, 1);
    }

    @Says("UNKNOWN: meeting (also without a NET)")
    static void promise10_UNKNOWN_meeting_also_without_a_NET() {
        for (int meeting : new int[] {LEAST, -1, 30, 60, MOST}) {
            refused("meet(" + meeting + ")", UNKNOWN, x -> x.meet(meeting), ALL);
        }
        refused("meet(0) without a NET", UNKNOWN, x -> x.meet(0), WITHOUT_NET);
        refused("meet(0) without a MEETING", UNKNOWN, x -> x.meet(0), Edges::bare, () -> Tried.of("a=*,b=(cd)"));
        refused("meet(1) of one", UNKNOWN, x -> x.meet(1), () -> Tried.of("*=*,a=b"));
        refused("meet(2) of two", UNKNOWN, x -> x.meet(2), () -> Tried.of("*=*,*=*"), Edges::full);
        refused("meet(15) of 15", UNKNOWN, x -> x.meet(15), () -> Tried.of(pairs(15)));
        refused("meet(30) of 30", UNKNOWN, x -> x.meet(30), EdgesOfMeetings::crowded);
        due("meet(14) of 15", Tried.of(pairs(15)).meet(14), 1);
    }

    @Says("FULL: there would be more than 60 NODES")
    static void promise10_FULL_there_would_be_more_than_60_NODES() {
        Tried to60 = Tried.of("(ab)=[ac]");
        to60.run(28);
        due("58 NODES", to60.count(0), 58);
        due("COPYING to 60", to60.meet(0), 2);
        due("60 NODES", to60.count(0), 60);
        due("COPYING above", to60.meet(0), FULL);
        due("60 NODES yet", to60.count(0), 60);
        due("29 were done", to60.count(8), 29);
        refused("meet(0) with 60 NODES", FULL, x -> x.meet(0), Edges::full);
        refused("meet(0) with 59 NODES", FULL, x -> x.meet(0), EdgesOfMeetings::nearlyFull);
        refused("meet(29) of 30", FULL, x -> x.meet(29), EdgesOfMeetings::crowded);
        Tried eating = full();
        due("EATING with 60 NODES", eating.meet(1), 3);
        due("60 NODES yet", eating.count(0), 60);
        Tried ends = crowded();
        due("two ENDS with 60 NODES", ends.meet(13), 1);
        due("58 NODES", ends.count(0), 58);
        due("COPYING to 60 again", ends.meet(28), 2);
        Tried alike = full();
        alike.change(0, 2);
        due("two SQUARE ones with 60 NODES", alike.meet(0), 1);
        due("58 NODES", alike.count(0), 58);
    }

    // ---- promise 11: run

    @Says("So many MEETINGS are done at most, always the first one, as long as there are any, and it is not FULL: how many.")
    static void promise11_run_till_there_are_none_or_it_is_FULL() {
        Tried x = Tried.of("*=*,*=*,*=(ab)");
        due("run(2) of 3", x.run(2), 2);
        due("the last is left", x.node(4, 4), 5);
        due("run(2) of 1", x.run(2), 1);
        due("run(2) of none", x.run(2), 0);
        due("run(60) without a NODE", bare().run(60), 0);
        due("as many as there are", Tried.of(pairs(15)).run(15), 15);
        due("one more than there are", Tried.of(pairs(15)).run(16), 15);
        Tried eaten = Tried.of("*=" + chain(14));
        due("29 of 29", eaten.run(60), 29);
        due("no NODE is left", eaten.count(0), 0);
        Tried endless = Tried.of("(ab)=[ac]");
        due("till it is FULL", endless.run(60), 29);
        due("60 NODES", endless.count(0), 60);
        due("FULL at once", endless.run(60), 0);
        due("29 were done", endless.count(10), 29);
        Tried odd = Tried.of("(ab)=[ac],d=*");
        due("till there would be 61", odd.run(60), 28);
        due("59 NODES", odd.count(0), 59);
        // The second one, EATING, could be done: but the first one is always taken.
        Tried second = full();
        due("the first one FULL", second.run(60), 0);
        due("the second one is there yet", second.meetings(11), 2);
        // The first one is done although it is FULL for the one behind it.
        Tried first = crowded();
        due("two ENDS each, then COPYING again", first.run(14), 14);
        due("32 NODES", first.count(0), 32);
    }

    @Says("OUTSIDE: many (1 to 60)")
    static void promise11_OUTSIDE_many_1_to_60() {
        for (int many : new int[] {LEAST, -1, 0, 61, 62, MOST}) {
            refused("run(" + many + ")", OUTSIDE, x -> x.run(many), ALL);
        }
        due("run(1)", Tried.of("*=*,*=*").run(1), 1);
        Tried x = Tried.of(LASTING);
        due("run(59)", x.run(59), 59);
        due("run(60)", x.run(60), 60);
        due("all were done", x.count(8), 119);
    }

    @Says("STATE: no NET")
    static void promise11_STATE_no_NET() {
        refused("run(1)", STATE, x -> x.run(1), WITHOUT_NET);
        refused("run(60)", STATE, x -> x.run(60), WITHOUT_NET);
    }

    // ---- promise 12: join

    @Says("Two OPEN WIRES become one, OPEN no more: RINGS then.")
    static void promise12_join_RINGS_then() {
        Tried x = Tried.of("a=h,b=c,d=*,e=*,g=g");
        due("both ends of one WIRE, a and h", x.join(0, 7), 2);
        due("a is OPEN no more", x.open(0), UNKNOWN);
        due("h is OPEN no more", x.open(7), UNKNOWN);
        due("ends of two WIRES", x.join(3, 1), 2);
        due("c is at d's END", x.open(2), 0);
        due("two HEADS", x.join(2, 4), 2);
        due("they MEET", x.node(0, 4), 1);
        due("none is OPEN", x.count(5), 0);
        Tried sides = Tried.of("(ab)=c");
        due("LEFT and RIGHT of one", sides.join(1, 0), 0);
        dueNode(sides, 0, 1, 902, 2, 1, NONE);
        Tried self = Tried.of("(ab)=c");
        due("HEAD and LEFT of one", self.join(2, 0), 0);
        dueNode(self, 0, 1, 1, 0, 901, NONE);
        Tried eight = Tried.of("a=b,c=d,e=f,g=h");
        due("the 1st RING", eight.join(0, 1), 1);
        due("the 2nd RING", eight.join(3, 2), 2);
        due("the 3rd RING", eight.join(4, 5), 3);
        due("the 4th RING", eight.join(7, 6), 4);
    }

    @Says("UNKNOWN: a, b, or they are the same")
    static void promise12_UNKNOWN_a_b_or_they_are_the_same() {
        for (int wire : WRONG_WIRES) {
            for (Make state : ALL) {
                refused("join(" + wire + ", 6)", UNKNOWN, x -> x.join(wire, 6), state);
                refused("join(6, " + wire + ")", UNKNOWN, x -> x.join(6, wire), state);
                refused("join(" + wire + ", itself)", UNKNOWN, x -> x.join(wire, wire), state);
            }
        }
        for (int wire = 0; wire < 8; wire++) {
            int same = wire;
            refused("join(" + wire + ", " + wire + ")", UNKNOWN, x -> x.join(same, same), Edges::fresh, Edges::used, Edges::full,
                () -> Tried.of("a=b,c=d,e=f,g=h"));
        }
        refused("join(0, 1), a not OPEN", UNKNOWN, x -> x.join(0, 1), Edges::full);
        refused("join(1, 0), b not OPEN", UNKNOWN, x -> x.join(1, 0), Edges::full);
        refused("join(4, 5), joined", UNKNOWN, x -> x.join(4, 5), Edges::used);
        refused("join(0, 1) without a NET", UNKNOWN, x -> x.join(0, 1), WITHOUT_NET);
        due("join(0, 7)", Tried.of("a=b,g=h").join(0, 7), 0);
        due("join(7, 0)", Tried.of("a=b,g=h").join(7, 0), 0);
    }

    // ---- promise 13: stop

    @Says("An END comes to an OPEN WIRE: its number.")
    static void promise13_stop_the_least_free_number() {
        Tried x = Tried.of("a=h");
        due("the first NODE", x.stop(0), 0);
        due("a is OPEN no more", x.open(0), UNKNOWN);
        due("it is at h", x.open(7), 0);
        due("the second", x.stop(7), 1);
        due("they MEET", x.node(0, 4), 1);
        Tried gap = Tried.of("a=*,*=*,b=(cd)");
        gap.meet(0);
        due("a number that is free between", gap.stop(2), 1);
        due("the next one", gap.stop(3), 2);
        due("behind all", gap.stop(1), 4);
        due("it MEETS whose HEAD is there", gap.node(4, 4), 3);
        due("at a LEFT it MEETS nobody", gap.node(1, 4), NONE);
        due("the 31st", Tried.of(pairs(14) + ",a=*,b=*").stop(0), 30);
    }

    @Says("UNKNOWN: wire")
    static void promise13_UNKNOWN_wire() {
        for (int wire : WRONG_WIRES) {
            refused("stop(" + wire + ")", UNKNOWN, x -> x.stop(wire), ALL);
        }
        refused("stop(0)", UNKNOWN, x -> x.stop(0), Edges::fresh, Edges::justTyped, Edges::bare, Edges::full);
        refused("stop(7)", UNKNOWN, x -> x.stop(7), Edges::fresh, Edges::justTyped, Edges::bare, Edges::full);
        refused("stop(4), joined", UNKNOWN, x -> x.stop(4), Edges::used);
        Tried twice = Tried.of("a=b");
        twice.stop(0);
        due("stopped already", twice.stop(0), UNKNOWN);
        due("one NODE", twice.count(0), 1);
    }

    @Says("FULL: there are 60 NODES")
    static void promise13_FULL_there_are_60_NODES() {
        Tried x = nearlyFull();
        due("59 NODES", x.count(0), 59);
        due("the 60th", x.stop(4), 59);
        due("60 NODES", x.count(0), 60);
        due("the 61st", x.stop(5), FULL);
        due("f is OPEN yet", x.open(5), 177);
        for (int wire = 1; wire <= 6; wire++) {
            int open = wire;
            refused("stop(" + wire + ") with 60 NODES", FULL, each -> each.stop(open), Edges::full);
        }
        refused("stop(0), not OPEN, with 60 NODES", UNKNOWN, each -> each.stop(0), Edges::full);
        Tried again = full();
        again.change(0, 2);
        again.meet(0);
        due("with 58 again", again.stop(5), 0);
    }

    // ---- promise 14: change

    @Says("A BRACKET becomes one of another KIND: of which it was.")
    static void promise14_change_from_each_KIND_to_each() {
        Tried x = Tried.of("(ab)=*");
        int was = 1;
        for (int kind : new int[] {1, 2, 2, 3, 3, 1, 3, 2, 1}) {
            due("change(0, " + kind + ")", x.change(0, kind), was);
            due("node(0, 0)", x.node(0, 0), kind);
            was = kind;
        }
        dueNode(x, 0, 1, 3, 900, 901, 1);
        due("the 60th", full().change(59, 1), 2);
    }

    @Says("UNKNOWN: node (a BRACKET)")
    static void promise14_UNKNOWN_node_a_BRACKET() {
        for (int node : WRONG_NODES) {
            refused("change(" + node + ", 1)", UNKNOWN, x -> x.change(node, 1), ALL);
            refused("change(" + node + ", 0)", UNKNOWN, x -> x.change(node, 0), ALL);
        }
        for (int kind : new int[] {0, 1, 3, 4}) {
            refused("change(2, " + kind + ") of an END", UNKNOWN, x -> x.change(2, kind), Edges::used, Edges::full);
            refused("change(0, " + kind + ")", UNKNOWN, x -> x.change(0, kind), Edges::fresh, Edges::justTyped, Edges::bare);
        }
        Tried gone = Tried.of("(ab)=(cd)");
        gone.meet(0);
        due("one that vanished", gone.change(0, 1), UNKNOWN);
    }

    @Says("OUTSIDE: kind (1 to 3)")
    static void promise14_OUTSIDE_kind_1_to_3() {
        for (int kind : new int[] {LEAST, -1, 0, 4, 5, MOST}) {
            refused("change(0, " + kind + ")", OUTSIDE, x -> x.change(0, kind), Edges::used, Edges::full);
        }
    }

    // ---- promise 15: flip

    @Says("LEFT and RIGHT of a BRACKET are changed about: the PLACE that is at the WIRE of its LEFT then.")
    static void promise15_flip_of_each_sort_of_WIRE() {
        Tried x = Tried.of("(ah)=*");
        due("OPEN ones", x.flip(0), 907);
        dueNode(x, 0, 1, 3, 907, 900, 1);
        due("a", x.open(0), 2);
        due("h", x.open(7), 1);
        due("back", x.flip(0), 900);
        Tried loop = Tried.of("[aa]=b");
        due("one from LEFT to RIGHT", loop.flip(0), 2);
        dueNode(loop, 0, 2, 901, 2, 1, NONE);
        Tried left = Tried.of("{ab}=a");
        due("one from HEAD to LEFT", left.flip(0), 901);
        dueNode(left, 0, 3, 2, 901, 0, NONE);
        due("one from HEAD to RIGHT", left.flip(0), 0);
        dueNode(left, 0, 3, 1, 0, 901, NONE);
        Tried two = Tried.of("(ab)=c,(ba)=d");
        due("both at another one", two.flip(1), 1);
        dueNode(two, 0, 1, 902, 4, 5, NONE);
        dueNode(two, 1, 1, 903, 1, 2, NONE);
        Tried heads = Tried.of("(*[ab])=c");
        due("HEADS", heads.flip(0), 6);
        due("the END", heads.node(1, 1), 2);
        due("the SQUARE one", heads.node(2, 1), 1);
        due("the 60th", full().flip(59), full().node(59, 3));
    }

    @Says("UNKNOWN: node (a BRACKET)")
    static void promise15_UNKNOWN_node_a_BRACKET() {
        for (int node : WRONG_NODES) {
            refused("flip(" + node + ")", UNKNOWN, x -> x.flip(node), ALL);
        }
        refused("flip(2) of an END", UNKNOWN, x -> x.flip(2), Edges::used, Edges::full);
        refused("flip(0)", UNKNOWN, x -> x.flip(0), Edges::fresh, Edges::justTyped, Edges::bare);
        Tried gone = Tried.of("(ab)=(cd)");
        gone.meet(0);
        due("one that vanished", gone.flip(0), UNKNOWN);
    }
}
