/** The boundary cases that promises 20 to 22 name: what is seen. */
public final class EdgesOfSeen extends Edges {
    private static final int[] WRONG_NODES = {LEAST, -1, 60, 61, 180, MOST};

    public static void main(String[] args) {
        runAll(EdgesOfSeen.class, promises(20, 22));
    }

    // ---- promise 20: see

    @Says("It is SEEN: how much is.")
    static void promise20_see_the_first_to_the_6th() {
        Tried x = Tried.of("(ab)=[cd]");
        due("the first", x.see(0, 0, 1), 1);
        due("the same again", x.see(0, 0, 1), 2);
        due("of another one", x.see(1, 0, 1), 3);
        due("what cannot be with it", x.see(0, 0, 2), 4);
        due("the 5th", x.see(1, 1, 1), 5);
        due("the 6th", x.see(1, 2, 0), 6);
        due("count(12)", x.count(12), 6);
        due("KINDS of the first", x.node(0, 5), 0);
        due("KINDS of the other one", x.node(1, 5), 2);
        Tried all = Tried.of("(ab)=[cd]");
        for (int i = 0; i < 5; i++) {
            all.see(0, 0, 1);
        }
        due("all of 5 are so", all.node(0, 5), 14);
        all.see(0, 1, 1);
        due("all of 6 are so", all.node(0, 5), 4);
    }

    @Says("UNKNOWN: node (a BRACKET)")
    static void promise20_UNKNOWN_node_a_BRACKET() {
        for (int node : WRONG_NODES) {
            refused("see(" + node + ", 0, 0)", UNKNOWN, x -> x.see(node, 0, 0), ALL);
            refused("see(" + node + ", 4, 61)", UNKNOWN, x -> x.see(node, 4, 61), ALL);
        }
        refused("see(2, 0, 0) of an END", UNKNOWN, x -> x.see(2, 0, 0), Edges::used, Edges::full);
        refused("see(2, -1, -2) of an END", UNKNOWN, x -> x.see(2, -1, -2), Edges::used, Edges::full);
        refused("see(0, 0, 0)", UNKNOWN, x -> x.see(0, 0, 0), Edges::fresh, Edges::justTyped, Edges::bare);
        Tried gone = Tried.of("(ab)=(cd)");
        gone.meet(0);
        due("one that vanished", gone.see(0, 0, 0), UNKNOWN);
        Tried last = Tried.of("(ab)=[ac]");
        last.run(29);
        due("the 60th", last.see(59, 0, 0), 1);
    }

    @Says("OUTSIDE: what (0 to 3), much (0 to 60; NONE)")
    static void promise20_OUTSIDE_what_0_to_3() {
        for (int what : new int[] {LEAST, -1, 4, 5, MOST}) {
            refused("see(0, " + what + ", 0)", OUTSIDE, x -> x.see(0, what, 0), Edges::used, Edges::full);
        }
        due("see(0, 0, 0)", Tried.of("(ab)=*").see(0, 0, 0), 1);
        due("see(0, 3, 0)", Tried.of("(ab)=*").see(0, 3, 0), 1);
    }

    @Says("much (0 to 60; NONE)")
    static void promise20_OUTSIDE_much_0_to_60_or_NONE() {
        for (int much : new int[] {LEAST, -101, -3, -2, 61, 62, MOST}) {
            refused("see(0, 0, " + much + ")", OUTSIDE, x -> x.see(0, 0, much), Edges::used, Edges::full);
            refused("see(0, 3, " + much + ")", OUTSIDE, x -> x.see(0, 3, much), Edges::used);
        }
        Tried x = Tried.of("(ab)=*");
        due("see(0, 0, NONE)", x.see(0, 0, NONE), 1);
        due("see(0, 0, 0)", x.see(0, 0, 0), 2);
        due("see(0, 0, 60)", x.see(0, 0, 60), 3);
    }

    @Says("FULL")
    static void promise20_FULL_with_6_SEEN() {
        refused("see(0, 0, 0) the 7th", FULL, x -> x.see(0, 0, 0), Edges::full);
        refused("see(0, 3, NONE) the 7th", FULL, x -> x.see(0, 3, NONE), Edges::full);
        refused("see(0, 4, 0) the 7th", OUTSIDE, x -> x.see(0, 4, 0), Edges::full);
        refused("see(0, 0, 61) the 7th", OUTSIDE, x -> x.see(0, 0, 61), Edges::full);
        refused("see(2, 0, 0) the 7th, of an END", UNKNOWN, x -> x.see(2, 0, 0), Edges::full);
        // What is asked behind the 6th is as with 6: the 7th would have said otherwise.
        Tried x = Tried.of("(ab)=[cd]");
        for (int i = 0; i < 6; i++) {
            x.see(0, 1, 1);
        }
        due("the 7th", x.see(0, 1, 0), FULL);
        due("KINDS", x.node(0, 5), 4);
        x.forget();
        due("the first behind forget()", x.see(0, 1, 0), 1);
        due("KINDS", x.node(0, 5), 2 + 8);
    }

    // ---- promise 21: forget

    @Says("Nothing is SEEN any more: how much was.")
    static void promise21_forget_of_none_of_one_and_of_6() {
        Tried x = Tried.of("(ab)=[cd]");
        due("none", x.forget(), 0);
        x.see(0, 1, 1);
        due("KINDS", x.node(0, 5), 4);
        due("one", x.forget(), 1);
        due("KINDS again", x.node(0, 5), 14);
        due("none again", x.forget(), 0);
        due("count(12)", x.count(12), 0);
        Tried full = full();
        due("6", full.forget(), 6);
        due("none", full.forget(), 0);
        due("without a NET", fresh().forget(), 0);
        Tried kept = Tried.of("(ab)=[cd]");
        kept.see(0, 1, 1);
        kept.image();
        kept.forget();
        kept.restore();
        due("SEEN by the IMAGE still", kept.node(0, 5), 4);
        due("one", kept.forget(), 1);
    }

    // ---- promise 22: runs

    @Says("RUNS: what = 0 how many are done, 1 how many NODES, 2 the SEED then.")
    static void promise22_what_0_to_2_from_none_to_60() {
        Tried none = bare();
        due("none: done", none.runs(60, 0, 0), 0);
        due("none: NODES", none.runs(60, 0, 1), 0);
        due("none: SEED", none.runs(60, 0, 2), 0);
        due("none: the last SEED", none.runs(60, MOST, 2), MOST);
        Tried one = Tried.of("(ab)=[cd]");
        due("one: done", one.runs(60, 0, 0), 1);
        due("one: NODES", one.runs(60, 0, 1), 4);
        due("one: SEED", one.runs(60, 0, 2), 12345);
        Tried full = full();
        due("60: done", full.runs(60, 0, 0), 60);
        due("59: done", full.runs(59, 0, 0), 59);
        due("1: done", full.runs(1, 0, 0), 1);
        // The first DRAW from 0 is 0: COPYING.
        due("1: NODES", full.runs(1, 0, 1), 62);
        dueAlike("runs() changes nothing", full, full());
    }

    @Says("OUTSIDE: many (1 to 60), seed (0 at least), what")
    static void promise22_OUTSIDE_many_1_to_60() {
        for (int many : new int[] {LEAST, -1, 0, 61, 62, MOST}) {
            refused("runs(" + many + ", 0, 0)", OUTSIDE, x -> x.runs(many, 0, 0), ALL);
        }
        due("runs(1, 0, 0)", Tried.of("*=*,*=*").runs(1, 0, 0), 1);
        due("runs(60, 0, 0)", Tried.of("*=*,*=*").runs(60, 0, 0), 2);
    }

    @Says("seed (0 at least)")
    static void promise22_OUTSIDE_seed_0_at_least() {
        for (int seed : new int[] {LEAST, LEAST + 1, -2, -1}) {
            refused("runs(1, " + seed + ", 0)", OUTSIDE, x -> x.runs(1, seed, 0), ALL);
            refused("runs(60, " + seed + ", 2)", OUTSIDE, x -> x.runs(60, seed, 2), ALL);
        }
        due("runs(1, 0, 2)", Tried.of("*=*").runs(1, 0, 2), 12345);
        due("runs(1, 1, 2)", Tried.of("*=*").runs(1, 1, 2), 1103527590);
        due("runs(1, the last, 2)", Tried.of("*=*").runs(1, MOST, 2), 1043980748);
    }

    @Says("seed (0 at least), what")
    static void promise22_OUTSIDE_what_0_to_2() {
        for (int what : new int[] {LEAST, -1, 3, 4, MOST}) {
            refused("runs(1, 0, " + what + ")", OUTSIDE, x -> x.runs(1, 0, what), ALL);
        }
    }

    @Says("STATE: no NET")
    static void promise22_STATE_no_NET() {
        for (int what = 0; what < 3; what++) {
            int each = what;
            refused("runs(1, 0, " + what + ")", STATE, x -> x.runs(1, 0, each), WITHOUT_NET);
            refused("runs(60, the last, " + what + ")", STATE, x -> x.runs(60, MOST, each), WITHOUT_NET);
        }
    }
}
