/** The boundary cases that promises 23 to 26 name: what is told of all. */
public final class EdgesOfAll extends Edges {
    public static void main(String[] args) {
        runAll(EdgesOfAll.class, promises(23, 26));
    }

    private static Tried replaced(String text) {
        Tried x = Tried.of("a=b");
        x.image();
        x.type(text).net();
        return x;
    }

    // ---- promise 23: image

    @Says("An IMAGE is kept (one; the latest): how many MEETINGS were done.")
    static void promise23_image_the_latest_alone() {
        Tried x = Tried.of("*=*,*=*,(ab)=c");
        due("none was done", x.image(), 0);
        x.run(1);
        due("one was done", x.image(), 1);
        x.run(1);
        due("the latest", x.restore(), 1);
        due("the latest again", x.restore(), 1);
        x.run(1);
        due("two were done", x.image(), 2);
        due("the latest now", x.restore(), 2);
        due("no NODE and no OPEN WIRE", bare().image(), 0);
        due("60 NODES", full().image(), 28);
        Tried asked = full();
        asked.image();
        asked.flip(59);
        due("60 NODES kept", asked.restore(), 28);
        due("they are as they were", asked.node(59, 3), full().node(59, 3));
    }

    @Says("STATE: no NET")
    static void promise23_STATE_no_NET() {
        refused("image()", STATE, Tried::image, WITHOUT_NET);
        Tried x = Tried.typed("a=");
        due("with a text that is none", x.image(), STATE);
        due("nothing was kept", x.restore(), STATE);
        x.letter('b');
        x.net();
        due("nothing was kept", x.restore(), STATE);
    }

    // ---- promise 24: restore

    @Says("It goes on from the IMAGE: how many MEETINGS were done.")
    static void promise24_restore_all_of_it() {
        Tried x = Tried.of("(ab)=[ac],*={de},f=g");
        due("with none done", x.image(), 0);
        x.run(60);
        due("60 NODES", x.count(0), 60);
        x.see(0, 0, 0);
        x.join(5, 6);
        due("restore()", x.restore(), 0);
        dueAlike("restored", x, imaged(Tried.of("(ab)=[ac],*={de},f=g")));
        Tried many = full();
        many.image();
        many.restore();
        due("restore() of 60 NODES", many.restore(), 28);
        due("60 NODES", many.count(0), 60);
        due("6 SEEN", many.count(12), 6);
        due("THE PAGE stays", many.count(13), 80);
        due("how often a NET was read stays", many.count(14), 1);
        due("it goes on: COPYING above 60", many.meet(0), FULL);
        Tried on = Tried.of("(ab)=[cd],e=*");
        on.image();
        on.meet(0);
        on.stop(0);
        on.restore();
        due("it goes on: the least free number", on.stop(0), 3);
        due("it goes on: the first MEETING", on.meet(0), 2);
        due("one was done", on.image(), 1);
    }

    private static Tried imaged(Tried x) {
        x.image();
        return x;
    }

    @Says("STATE: none was kept, or there is another NET since")
    static void promise24_STATE_none_was_kept_or_another_NET_since() {
        refused("restore() without a NET", STATE, Tried::restore, WITHOUT_NET);
        refused("restore() without an IMAGE", STATE, Tried::restore, Edges::bare, () -> Tried.of("(ab)=[ab],*=*"));
        refused("restore() with another NET since", STATE, Tried::restore, () -> replaced("a=b"), () -> replaced("(ab)=[ab],*=*"));
        Tried x = Tried.of("a=b");
        x.image();
        x.type("a=");
        due("a text that is none", x.net(), STATE);
        due("the IMAGE is there yet", x.restore(), 0);
        x.letter('b');
        due("the same text anew", x.net(), 0);
        due("another NET since", x.restore(), STATE);
        due("an IMAGE of that", x.image(), 0);
        due("restore()", x.restore(), 0);
    }

    // ---- promise 25: count

    @Says("How many: 0 NODES, 1 ENDS, 2 ROUND ones, 3 SQUARE ones (by KIND), 4 CURLED ones, 5 OPEN WIRES, 6 RINGS")
    static void promise25_what_0_to_6_from_none_to_all() {
        dueCounts(Tried.of("a=b,c=d,e=f,g=h"), 0, 0, 0, 0, 0, 8, 0, 0, 0, 0, 0, 0, 0, 0, 1);
        dueCounts(Tried.of("a=a,b=b,c=c,d=d,e=e,f=f,g=g,h=h"), 0, 0, 0, 0, 0, 0, 8, 0, 0, 0, 0, 0, 0, 0, 1);
        dueCounts(Tried.of(pairs(15)), 30, 30, 0, 0, 0, 0, 0, 15, 0, 0, 0, 0, 0, 0, 1);
        // CURLED ones are not counted as SQUARE.
        dueCounts(Tried.of("{ab}=[cd],{e*}=(f*)"), 6, 2, 1, 1, 2, 6, 0, 2, 0, 0, 0, 0, 0, 0, 1);
        dueCounts(full(), 60, 1, 29, 29, 1, 6, 0, 2, 28, 0, 28, 0, 6, 80, 1);
    }

    @Says("7 MEETINGS that there are, 8 that were done, 9 ALIKE, 10 COPYING, 11 EATING of these, 12 what is SEEN, 13 letters of THE PAGE")
    static void promise25_what_7_to_13() {
        Tried x = Tried.of("*=*,(ab)=[cd],*=(ef)");
        x.see(2, 0, 0);
        x.letter('~');
        dueCounts(x, 6, 3, 2, 1, 0, 6, 0, 3, 0, 0, 0, 0, 1, 1, 1);
        x.meet(0);
        dueCounts(x, 4, 1, 2, 1, 0, 6, 0, 2, 1, 1, 0, 0, 1, 1, 1);
        x.meet(0);
        dueCounts(x, 6, 1, 3, 2, 0, 6, 0, 1, 2, 1, 1, 0, 1, 1, 1);
        x.meet(0);
        dueCounts(x, 6, 2, 2, 2, 0, 6, 0, 0, 3, 1, 1, 1, 1, 1, 1);
        // More than 60 can be done, if not by one call.
        Tried lasting = Tried.of("[[ab]a]=(*b)");
        lasting.run(60);
        lasting.run(60);
        due("count(8)", lasting.count(8), 120);
        due("of each sort", lasting.count(9) + lasting.count(10) + lasting.count(11), 120);
    }

    @Says("14 how often a NET was read")
    static void promise25_what_14_how_often_a_NET_was_read() {
        Tried x = fresh();
        due("never", x.count(14), 0);
        x.type("a=");
        x.net();
        due("one that is none", x.count(14), 0);
        x.letter('a');
        x.net();
        due("once", x.count(14), 1);
        x.image();
        x.type("b=b").net();
        due("twice", x.count(14), 2);
        x.image();
        x.type("c");
        x.restore();
        due("restore() reads none", x.count(14), 2);
        x.blank();
        for (int i = 3; i <= 100; i++) {
            x.type("d=d").net();
        }
        due("a hundred times", x.count(14), 100);
    }

    @Says("OUTSIDE")
    static void promise25_OUTSIDE_what_0_to_14() {
        for (int what : new int[] {LEAST, -1, 15, 16, MOST}) {
            refused("count(" + what + ")", OUTSIDE, x -> x.count(what), ALL);
        }
        due("count(0)", full().count(0), 60);
        due("count(14)", full().count(14), 1);
    }

    // ---- promise 26: digest

    /** As the document says it, by the other calls; each part asks an object of its own, for the 512 calls. */
    private static final class Digest {
        private final Make state;
        private final String page;
        private long h = 1153;

        Digest(Make state, String page) {
            this.state = state;
            this.page = page;
        }

        private void add(long number) {
            h = 31 * h + number;
        }

        long told() {
            addNodes();
            addWires();
            addEnding();
            for (char c : page.toCharArray()) {
                add(c);
            }
            Tried x = state.make();
            for (int what = 0; what <= 14; what++) {
                add(x.count(what));
            }
            return h;
        }

        private void addNodes() {
            for (int from = 0; from < 60; from += 30) {
                Tried x = state.make();
                for (int node = from; node < from + 30; node++) {
                    if (x.as(node, 0) == node) {
                        add(node);
                        for (int what = 0; what <= 4; what++) {
                            add(x.node(node, what));
                        }
                    }
                }
            }
        }

        private void addWires() {
            Tried x = state.make();
            for (int wire = 0; wire < 8; wire++) {
                if (x.open(wire) >= 0) {
                    add(wire);
                    add(x.open(wire));
                }
            }
        }

        private void addEnding() {
            if (state.make().meetings(0) == STATE) {
                return;
            }
            addSigns(Tried::reading);
            Tried x = state.make();
            for (int what = 0; what <= 6; what++) {
                add(x.ending(what));
            }
            addSigns(Tried::endReading);
        }

        private void addSigns(Sign sign) {
            for (int from = 0; from < 1000; from += 250) {
                Tried x = state.make();
                for (int i = from; i < from + 250; i++) {
                    int code = sign.of(x, i);
                    if (code < 0) {
                        return;
                    }
                    add(code);
                }
            }
        }
    }

    private interface Sign {
        int of(Tried x, int sign);
    }

    private static void dueDigest(String name, Make state, String page) {
        due(name, state.make().digest(), new Digest(state, page).told());
        Tried asked = state.make();
        asked.digest();
        dueAlike(name + " changes nothing", asked, state.make());
    }

    @Says("h is 1153, then for each of these numbers, in order, 31 times h, and it (as longs, wrapping)")
    static void promise26_from_1153_wrapping() {
        long none = 1153;
        for (int what = 0; what <= 14; what++) {
            none *= 31;
        }
        due("of a new object", fresh().digest(), none);
        dueDigest("a new object", Edges::fresh, "");
        dueDigest("80 letters", () -> Tried.typed(EIGHTY), EIGHTY);
        dueDigest("the first code and the last", () -> Tried.typed(" ~"), " ~");
    }

    @Says("of each NODE its number, what node() tells for 0 to 4; of each OPEN WIRE its number, what open() tells")
    static void promise26_from_no_NODE_to_60_from_no_OPEN_WIRE_to_8() {
        dueDigest("no NODE, no OPEN WIRE", Edges::bare, "");
        dueDigest("30 NODES", () -> Tried.of(pairs(15)), "");
        dueDigest("60 NODES", Edges::full, EIGHTY);
        dueDigest("8 OPEN WIRES", () -> Tried.of("a=b,c=d,e=f,g=h"), "");
        dueDigest("some are free between", EdgesOfAll::withGaps, "");
        dueDigest("used", Edges::used, "a=b,c");
    }

    private static Tried withGaps() {
        Tried x = Tried.of("*=*,a=*,*=*,b=(c*),*=*");
        x.meet(2);
        x.meet(0);
        return x;
    }

    @Says({"with a NET each sign of the READING, what ending() tells for 0 to 6, each sign of the READING of the ENDING (if there is one)",
        "letters of THE PAGE; what count() tells for 0 to 14"})
    static void promise26_with_a_NET_with_an_ENDING_and_without() {
        dueDigest("no NET, a text", Edges::justTyped, "(ab)=*");
        dueDigest("an ENDING", () -> Tried.of("(ab)=[cd],*=*"), "");
        dueDigest("no ENDING", () -> Tried.of("(ab)=[ab],c=*"), "");
        dueDigest("the longest READING", EdgesOfAll::longest, "");
        dueDigest("60 MEETINGS", () -> Tried.of("(((((((**)*)*)*)*)*)*)=[[[[ab]c]d]e]"), "");
        dueDigest("61 MEETINGS", () -> Tried.of("(((((((**)*)*)*)*)*)*)=[[[[ab]c]d]e],*=*"), "");
        due("by hand", Tried.of("a=b").digest(), hash(0, 901, 1, 900, 'a', ';', 'a', ';', 0, 0, 0, 0, 0, 0, 0,
            'a', ';', 'a', ';', 0, 0, 0, 0, 0, 2, 0, 0, 0, 0, 0, 0, 0, 0, 1));
    }

    /** The READING of its ENDING has 535 signs. */
    private static Tried longest() {
        Tried x = Tried.of("{b[a[gc]]}={f{(a(bd))h}}");
        x.run(45);
        x.flip(57);
        x.change(0, 3);
        return x;
    }

    private static long hash(int... numbers) {
        long h = 1153;
        for (int number : numbers) {
            h = 31 * h + number;
        }
        return h;
    }
}
