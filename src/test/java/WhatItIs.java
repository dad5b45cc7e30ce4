/** The first lines of the document, clause by clause, each shown on a small net that was reckoned by hand. */
public final class WhatItIs extends Edges {
    public static void main(String[] args) {
        runAll(WhatItIs.class, WHAT_IT_IS);
    }

    @Says("nets of brackets of three sorts and of ends, on wires, drawn as trees in a text")
    static void object_nets_of_three_sorts_of_brackets_and_of_ends() {
        Tried x = Tried.of("(a[b*])={ac}");
        dueNode(x, 0, 1, 9, 10, 3, 3);
        dueNode(x, 1, 2, 2, 901, 6, NONE);
        dueNode(x, 2, 0, 5, NONE, NONE, NONE);
        dueNode(x, 3, 3, 0, 1, 902, 0);
    }

    @Says({"Heads that meet", "two that meet by their heads vanish if they are alike, copy each other if not, an end eats what it meets"})
    static void object_heads_that_meet_vanish_copy_or_eat() {
        Tried alike = Tried.of("[ab]=[cd]");
        due("alike ones", alike.meet(0), 1);
        due("vanish", alike.count(0), 0);
        Tried unlike = Tried.of("[ab]={cd}");
        due("unlike ones", unlike.meet(0), 2);
        due("copy each other: SQUARE ones", unlike.count(3), 2);
        due("copy each other: CURLED ones", unlike.count(4), 2);
        Tried end = Tried.of("{ab}=*");
        due("an end and a bracket", end.meet(0), 3);
        due("it is eaten", end.count(4), 0);
        due("ends", end.count(1), 2);
    }

    @Says("as many meet whatever meets first, so it is told exactly how many yet, how many rounds all at once, what is left")
    static void object_as_many_meet_whatever_meets_first() {
        // The ROUND one is copied, then each copy is eaten; the two ENDS that MEET can do so at any time.
        String text = "(**)=[ab],*=*";
        dueEnding(Tried.of(text), 4, 1, 1, 2, 2, 6, 0);
        int[][] orders = {{0, 0, 0, 0}, {1, 0, 0, 0}, {0, 1, 0, 0}, {0, 2, 0, 0}, {0, 1, 1, 0}, {0, 0, 1, 0}};
        for (int[] order : orders) {
            Tried x = Tried.of(text);
            for (int i = 0; i < order.length; i++) {
                due("is done", x.meet(order[i]) > 0 ? 1 : 0, 1);
                due("how many yet", x.ending(0), 3 - i);
            }
            due("ALIKE", x.count(9), 1);
            due("COPYING", x.count(10), 1);
            due("EATING", x.count(11), 2);
            due("what is left", x.count(0), 6);
            dueReading(x, "(**);(**);");
        }
    }

    @Says("how it reads from each open wire")
    static void object_how_it_reads_from_each_open_wire() {
        dueReading(Tried.of("c=[a*],b={a(**)}"), "{a(**)};[a*];");
    }

    @Says("whether two nets come to the same")
    static void object_whether_two_nets_come_to_the_same() {
        Tried x = Tried.of("{ab}=[{cd}{ef}]");
        x.image();
        due("itself", x.same(), 1);
        x.run(1);
        due("what comes of it", x.same(), 1);
        x.run(60);
        due("what comes of all", x.same(), 1);
        x.restore();
        x.change(2, 1);
        due("one of another KIND", x.same(), 0);
    }

    @Says("wires that close to rings")
    static void object_wires_that_close_to_rings() {
        Tried x = Tried.of("{ab}={ac}");
        due("to come", x.ending(6), 1);
        x.meet(0);
        due("LEFT with LEFT", x.count(6), 1);
        due("the rest joined", x.join(1, 2), 2);
    }

    @Says("of which sort a bracket is, by how many meet, which count to ask next")
    static void object_of_which_sort_a_bracket_is() {
        // As a ROUND one it makes 6, 1, 2, 3 (in all, ALIKE, COPYING, EATING); SQUARE 3, 2, 0, 1; CURLED 3, 1, 1, 1.
        Tried x = Tried.of("[*b]=[{f*}c]");
        due("any sort", x.node(0, 5), 2 + 4 + 8);
        due("which to ask next", x.node(0, 6), 2);
        x.see(0, 2, 1);
        due("it is CURLED", x.node(0, 5), 8);
        x.forget();
        x.see(0, 0, 3);
        due("SQUARE or CURLED", x.node(0, 5), 4 + 8);
        due("which to ask next", x.node(0, 6), 1);
    }

    @Says("runs by draws")
    static void object_runs_by_draws() {
        // The next SEEDS of 7 are 1282168116, 642666333: by 65536 19564, 9806: the rests by 3 and by 2 are 1 and 0.
        Tried x = Tried.of("(ab)=[cd],*=*,{ef}=*");
        due("one: SEED", x.runs(1, 7, 2), 1282168116);
        due("two: SEED", x.runs(2, 7, 2), 642666333);
        due("all", x.runs(60, 7, 0), 3);
        due("two ENDS vanish, then COPYING", x.runs(60, 7, 1), 6);
        due("COPYING first", x.runs(60, 0, 1), 8);
        due("nothing was done", x.count(8), 0);
    }

    @Says("A NET is of NODES (numbered from 0).")
    static void object_NODES_are_numbered_from_0() {
        Tried x = Tried.of("*=a,(bc)=d");
        due("-1", x.node(-1, 0), UNKNOWN);
        due("0", x.node(0, 0), 0);
        due("1", x.node(1, 0), 1);
        due("2", x.node(2, 0), UNKNOWN);
    }

    @Says("An object is used for at most 512 calls after it has been made")
    static void object_used_for_at_most_512_calls() {
        String text = "(ab)=[c*],*=*";
        Tried x = Tried.of(text);
        x.image();
        while (x.calls() < 511) {
            x.same();
        }
        due("the 512th call", x.digest(), Tried.of(text).digest());
        due("calls made", x.calls(), 512);
    }

    @Says("what later calls answer is free.")
    static void object_later_calls_answer_whatever_but_do_answer() {
        HeadsMeet x = new HeadsMeet();
        int[] numbers = {LEAST, -1, 0, 1, 2, 7, 30, 59, 60, 97, 999, MOST};
        String text = "(ab)=[ac],*=*,";
        for (int call = 0; call < 20000; call++) {
            if (call % 140 == 0) {
                x.digest();
                x.blank();
            }
            x.letter(text.charAt(call % text.length()));
            x.net();
            x.image();
            x.run(1 + call % 60);
            x.see(0, call % 4, call % 61);
            x.join(call % 8, call / 8 % 8);
            x.stop(numbers[call % numbers.length]);
            x.flip(numbers[call % numbers.length]);
            x.change(numbers[call % numbers.length], 1 + call % 3);
        }
        due("how often a NET was read is told yet", x.count(14) > 0 ? 1 : 0, 1);
    }
}
