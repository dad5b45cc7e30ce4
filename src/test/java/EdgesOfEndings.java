/** The boundary cases that promises 16 to 19 name: the ending. */
public final class EdgesOfEndings extends Edges {
    /** 28 COPYING, then each of the 8 ENDS eats 4 SQUARE ones. */
    private static final String SIXTY = "(((((((**)*)*)*)*)*)*)=[[[[ab]c]d]e]";
    private static final String ENDLESS = "(ab)=[ab]";
    private static final int[] WRONG_SIGNS = {LEAST, -1000, -1, 1000, 1001, MOST};

    public static void main(String[] args) {
        runAll(EdgesOfEndings.class, promises(16, 19));
    }

    /** Found by a search: 59 NODES, 60 MEETINGS, and of all 175 NODES that are left it is read: 535 signs. */
    private static Tried longest() {
        Tried x = Tried.of("{b[a[gc]]}={f{(a(bd))h}}");
        x.run(45);
        x.flip(57);
        x.change(0, 3);
        return x;
    }

    // ---- promise 16: ending

    @Says("ENDING: what = 0 how many MEETINGS, 1 ALIKE, 2 COPYING, 3 EATING, 4 ROUNDS, 5 how many NODES are left, 6 RINGS then")
    static void promise16_what_0_to_6_from_none_to_many() {
        dueEnding(bare(), 0, 0, 0, 0, 0, 0, 1);
        dueEnding(Tried.of("a=*"), 0, 0, 0, 0, 0, 1, 0);
        dueEnding(Tried.of("*=*"), 1, 1, 0, 0, 1, 0, 0);
        dueEnding(Tried.of("[ab]=[ab],c=c"), 1, 1, 0, 0, 1, 0, 3);
        dueEnding(Tried.of(pairs(15)), 15, 15, 0, 0, 1, 0, 0);
        dueEnding(Tried.of("(aa)=[bb]"), 3, 2, 1, 0, 2, 0, 1);
        dueEnding(Tried.of("*=(a[bc])"), 2, 0, 0, 2, 2, 3, 0);
        dueEnding(longest(), 60, 1, 59, 0, 30, 175, 0);
        Tried x = Tried.of("*=*,*=*,*=*");
        x.meet(0);
        dueEnding(x, 2, 2, 0, 0, 1, 0, 0);
        x.run(60);
        dueEnding(x, 0, 0, 0, 0, 0, 0, 0);
        Tried asked = used();
        asked.ending(0);
        asked.ending(6);
        dueAlike("ending() changes nothing", asked, used());
    }

    @Says("NONE: there is none")
    static void promise16_NONE_there_is_none() {
        Tried sixty = Tried.of(SIXTY);
        for (int what = 0; what < 7; what++) {
            due("60: ending(" + what + ") is told", sixty.ending(what) >= 0 ? 1 : 0, 1);
        }
        due("60: ending(0)", sixty.ending(0), 60);
        dueNoEnding(Tried.of(SIXTY + ",*=*"));
        dueNoEnding(Tried.of(ENDLESS));
        dueNoEnding(full());
        Tried late = Tried.of(SIXTY + ",*=*,*=*");
        dueNoEnding(late);
        late.meet(2);
        dueNoEnding(late);
        late.meet(1);
        due("60 behind two", late.ending(0), 60);
        late.meet(0);
        due("59 behind three", late.ending(0), 59);
    }

    @Says("OUTSIDE")
    static void promise16_OUTSIDE_what_0_to_6() {
        for (int what : new int[] {LEAST, -1, 7, 8, MOST}) {
            refused("ending(" + what + ")", OUTSIDE, x -> x.ending(what), ALL);
            refused("ending(" + what + ") of none", OUTSIDE, x -> x.ending(what), () -> Tried.of(ENDLESS));
        }
    }

    @Says("STATE: no NET")
    static void promise16_STATE_no_NET() {
        for (int what = 0; what < 7; what++) {
            int each = what;
            refused("ending(" + what + ")", STATE, x -> x.ending(each), WITHOUT_NET);
        }
    }

    // ---- promise 17: reading

    @Says("The so-manieth (from 0) sign of the READING, as its code")
    static void promise17_the_first_sign_and_the_last() {
        dueReading(Tried.of("a=*"), "*;");
        dueReading(Tried.of("h=g"), "a;a;");
        Tried x = Tried.of("(ab)=[ac]");
        x.run(29);
        // 58 BRACKETS in two TREES.
        due("the first", x.reading(0), '[');
        due("the last", x.reading(177), ';');
        due("behind it", x.reading(178), NONE);
        dueAlike("reading() changes nothing", read(used()), used());
    }

    private static Tried read(Tried x) {
        x.reading(0);
        x.reading(999);
        x.endReading(0);
        x.endReading(999);
        return x;
    }

    @Says("NONE: it has not so many")
    static void promise17_NONE_it_has_not_so_many() {
        Tried none = Tried.of("*=*");
        due("of no sign: reading(0)", none.reading(0), NONE);
        due("of no sign: reading(999)", none.reading(999), NONE);
        Tried two = Tried.of("a=*");
        due("of two: reading(1)", two.reading(1), ';');
        due("of two: reading(2)", two.reading(2), NONE);
        due("of two: reading(999)", two.reading(999), NONE);
    }

    @Says("OUTSIDE: sign (0 to 999)")
    static void promise17_OUTSIDE_sign_0_to_999() {
        for (int sign : WRONG_SIGNS) {
            refused("reading(" + sign + ")", OUTSIDE, x -> x.reading(sign), ALL);
        }
        due("reading(0)", used().reading(0) > 0 ? 1 : 0, 1);
        due("reading(999)", used().reading(999), NONE);
    }

    @Says("STATE: no NET")
    static void promise17_STATE_no_NET() {
        refused("reading(0)", STATE, x -> x.reading(0), WITHOUT_NET);
        refused("reading(999)", STATE, x -> x.reading(999), WITHOUT_NET);
    }

    // ---- promise 18: endReading

    @Says("So of the READING of the ENDING")
    static void promise18_from_no_sign_to_535() {
        dueEndReading(bare(), "");
        dueEndReading(Tried.of("*=(*a)"), "*;");
        dueEndReading(Tried.of("(ab)=[cd]"), "[ab];[cd];(ac);(bd);");
        dueEndReading(Tried.of(SIXTY), (chain(7) + ";").repeat(5));
        Tried none = Tried.of("a=*");
        due("of two: endReading(1)", none.endReading(1), ';');
        due("of two: endReading(2)", none.endReading(2), NONE);
        due("of two: endReading(999)", none.endReading(999), NONE);
        int[] many = new int[1000];
        for (int from = 0; from < 1000; from += 250) {
            Tried x = longest();
            for (int sign = from; sign < from + 250; sign++) {
                int code = x.endReading(sign);
                due("there are 535: endReading(" + sign + ")", code >= 0 ? 1 : 0, sign < 535 ? 1 : 0);
                many[code < 0 ? 999 : code]++;
            }
        }
        due("behind them NONE", many[999], 465);
        due("OPEN WIRES", many[';'], 5);
        due("ROUND ones, as many signs ahead as behind", many['('], many[')']);
        due("SQUARE ones, as many signs ahead as behind", many['['], many[']']);
        for (int name = 97; name <= 186; name++) {
            boolean isSign = name == '{' || name == '}';
            due("a WIRE is told at both ends: " + name, isSign ? many[name] > 2 ? 2 : 0 : many[name], 2);
        }
        due("the 91st WIRE there is not", many[187], 0);
    }

    @Says("-2: there is no ENDING")
    static void promise18_minus_2_there_is_no_ENDING() {
        for (int sign : new int[] {0, 1, 998, 999}) {
            due("60: endReading(" + sign + ")", Tried.of(SIXTY).endReading(sign) >= NONE ? 1 : 0, 1);
            due("61: endReading(" + sign + ")", Tried.of(SIXTY + ",*=*").endReading(sign), NO_ENDING);
            due("endless: endReading(" + sign + ")", Tried.of(ENDLESS).endReading(sign), NO_ENDING);
            due("60 NODES: endReading(" + sign + ")", full().endReading(sign), NO_ENDING);
        }
        due("the READING is there", Tried.of(ENDLESS + ",c=*").reading(0), '*');
    }

    @Says("OUTSIDE; STATE")
    static void promise18_OUTSIDE_sign_and_STATE_no_NET() {
        for (int sign : WRONG_SIGNS) {
            refused("endReading(" + sign + ")", OUTSIDE, x -> x.endReading(sign), ALL);
            refused("endReading(" + sign + ") without an ENDING", OUTSIDE, x -> x.endReading(sign), () -> Tried.of(ENDLESS));
        }
        refused("endReading(0)", STATE, x -> x.endReading(0), WITHOUT_NET);
        refused("endReading(999)", STATE, x -> x.endReading(999), WITHOUT_NET);
    }

    // ---- promise 19: same

    @Says("Whether THE NET and that of the IMAGE are the SAME (1, 0)")
    static void promise19_1_or_0() {
        Tried x = bare();
        x.image();
        due("nothing but a RING", x.same(), 1);
        Tried y = Tried.of("(ab)=[cd],*=*");
        y.image();
        due("as it was", y.same(), 1);
        y.run(1);
        due("one done", y.same(), 1);
        y.run(60);
        due("all done", y.same(), 1);
        y.image();
        due("the IMAGE with all done", y.same(), 1);
        y.flip(0);
        due("one changed about", y.same(), 0);
        y.restore();
        due("as it was again", y.same(), 1);
        y.stop(0);
        due("one stopped", y.same(), 0);
        dueFlipTold("[ab]=[*c],e={ec},f={fb}", 0, "*;", "a;");
        dueFlipTold("a=*,[hb]=[*c],e={ec},f={fb}", 1, "*;*;", "*;a;");
        Tried far = longest();
        far.image();
        due("535 signs and 535", far.same(), 1);
        far.flip(58);
        due("535 signs and others", far.same(), 0);
        Tried asked = used();
        asked.same();
        dueAlike("same() changes nothing", asked, used());
    }

    /** Two READINGS that are unlike in one sign alone. */
    private static void dueFlipTold(String text, int node, String first, String then) {
        Tried x = Tried.of(text);
        x.image();
        dueEndReading(x, first);
        x.flip(node);
        dueEndReading(x, then);
        due("one sign is another one", x.same(), 0);
    }

    @Says("-2: either has no ENDING")
    static void promise19_minus_2_either_has_no_ENDING() {
        Tried x = Tried.of(ENDLESS);
        x.image();
        due("both", x.same(), NO_ENDING);
        x.change(0, 2);
        due("the IMAGE", x.same(), NO_ENDING);
        x.image();
        due("neither", x.same(), 1);
        x.change(0, 3);
        due("THE NET", x.same(), NO_ENDING);
        Tried limit = Tried.of(SIXTY + ",*=*");
        limit.image();
        due("61 and 61", limit.same(), NO_ENDING);
        limit.meet(1);
        due("61 and 60", limit.same(), NO_ENDING);
        limit.image();
        due("60 and 60", limit.same(), 1);
        limit.meet(0);
        due("60 and 59", limit.same(), 1);
    }

    @Says("STATE: no IMAGE of THE NET")
    static void promise19_STATE_no_IMAGE_of_THE_NET() {
        refused("same() without a NET", STATE, Tried::same, WITHOUT_NET);
        refused("same() without an IMAGE", STATE, Tried::same, Edges::bare, () -> Tried.of(ENDLESS));
        refused("same() with an IMAGE of another NET", STATE, Tried::same, () -> replaced("a=b"), () -> replaced(ENDLESS));
        Tried x = Tried.of("a=b");
        x.image();
        x.type("a=");
        x.net();
        due("a text that was none", x.same(), 1);
        x.letter('b');
        x.net();
        due("the same text anew", x.same(), STATE);
        x.image();
        due("an IMAGE anew", x.same(), 1);
    }

    private static Tried replaced(String text) {
        Tried x = Tried.of("a=b");
        x.image();
        x.type(text).net();
        return x;
    }
}
