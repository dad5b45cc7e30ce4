import java.io.IOException;
import java.lang.annotation.ElementType;
import java.lang.annotation.Retention;
import java.lang.annotation.RetentionPolicy;
import java.lang.annotation.Target;
import java.lang.reflect.InvocationTargetException;
import java.lang.reflect.Method;
import java.lang.reflect.Modifier;
import java.nio.file.Files;
import java.nio.file.Path;
import java.util.ArrayList;
import java.util.Arrays;
import java.util.Comparator;
import java.util.List;
import java.util.Map;
import java.util.TreeMap;
import java.util.regex.Matcher;
import java.util.regex.Pattern;

/**
 * What the tests of sentences share. Each test is a method without arguments, named after the
 * part of the document (promise07, terms) and the sentence; it quotes that sentence, and the quote
 * must stand in that part. Each word of a part must be quoted by a test.
 */
abstract class Edges {
    static final int NONE = -1, UNKNOWN = -101, OUTSIDE = -102, STATE = -103, FULL = -104;
    static final int NO_ENDING = -2;
    static final int LEAST = Integer.MIN_VALUE, MOST = Integer.MAX_VALUE;

    static final String WHAT_IT_IS = "## What it is", TERMS = "## Terms";

    private static final Path DOCUMENT = Path.of("../shared/DOC.md");
    private static final Pattern NAME = Pattern.compile("(promise(\\d\\d)|terms|object)_\\w+");
    // Headings, the form of a call, and the marks of parts; what the interface says is for HeadsMeetForm to look at.
    private static final Pattern NO_SENTENCE =
        Pattern.compile("(?m)^## .*$|^`.*?`: |^Ahead of the calls .*$|^======== \\d |```(text)?|======== \\d ");
    private static final Pattern WORD = Pattern.compile("[A-Za-z0-9*]+");

    private static String test = "";
    private static int looked = 0;
    private static int wrong = 0;

    Edges() {
    }

    /** The words of the document that a test is for. */
    @Retention(RetentionPolicy.RUNTIME)
    @Target(ElementType.METHOD)
    @interface Says {
        String[] value();
    }

    interface Make {
        Tried make();
    }

    interface Ask {
        long ask(Tried x);
    }

    // ---- running

    /** The parts are those that these tests are for: each must have one at least. */
    static void runAll(Class<?> tests, String... parts) {
        Method[] methods = tests.getDeclaredMethods();
        Arrays.sort(methods, Comparator.comparing(Method::getName));
        Map<String, List<String>> quotes = new TreeMap<>();
        int many = 0;
        for (Method method : methods) {
            if (!method.isAnnotationPresent(Says.class)) {
                must(method.isSynthetic() || Modifier.isPrivate(method.getModifiers()) || method.getName().equals("main"),
                    method.getName() + " quotes nothing");
                continue;
            }
            runOne(method);
            many++;
            quotes.computeIfAbsent(partOf(method.getName()), part -> new ArrayList<>())
                .addAll(Arrays.asList(method.getAnnotation(Says.class).value()));
        }
        test = "";
        for (String part : parts) {
            must(quotes.containsKey(part), part + " no test is for it");
        }
        must(quotes.size() == parts.length, "tests for other parts than told");
        lookAtQuotes(quotes);
        System.out.println(many + " sentences, " + looked + " answers looked at, " + wrong + " not as due");
        if (wrong != 0 || many == 0) {
            System.exit(1);
        }
    }

    static String[] promises(int first, int last) {
        String[] parts = new String[last - first + 1];
        for (int i = 0; i < parts.length; i++) {
            parts[i] = promise(first + i);
        }
        return parts;
    }

    private static String promise(int number) {
        return "## Promise " + number + ":";
    }

    private static void runOne(Method method) {
        test = method.getName();
        int before = looked;
        try {
            method.setAccessible(true);
            method.invoke(null);
        } catch (InvocationTargetException thrown) {
            must(false, "it threw " + thrown.getCause());
            thrown.getCause().printStackTrace(System.out);
        } catch (IllegalAccessException never) {
            must(false, "it cannot be called");
        }
        must(looked > before, "it looks at nothing");
    }

    private static String partOf(String name) {
        Matcher matcher = NAME.matcher(name);
        if (!matcher.matches()) {
            must(false, name + " names no part of the document");
            return "";
        }
        if (matcher.group(2) != null) {
            return promise(Integer.parseInt(matcher.group(2)));
        }
        return matcher.group(1).equals("terms") ? TERMS : WHAT_IT_IS;
    }

    private static void lookAtQuotes(Map<String, List<String>> quotes) {
        String document;
        try {
            document = "\n" + Files.readString(DOCUMENT) + "\n## ";
        } catch (IOException gone) {
            System.out.println("no document at " + DOCUMENT + ": quotes are not looked at");
            return;
        }
        quotes.forEach((part, words) -> {
            int start = document.indexOf("\n" + part);
            must(start >= 0, "the document has no part " + part);
            if (start >= 0) {
                lookAtPart(part, document.substring(start + 1, document.indexOf("\n## ", start + 1)), words);
            }
        });
    }

    private static void lookAtPart(String part, String text, List<String> words) {
        boolean[] quoted = new boolean[text.length()];
        for (String quote : words) {
            int at = text.indexOf(quote);
            must(at >= 0, part + " does not say '" + quote + "'");
            if (at >= 0) {
                Arrays.fill(quoted, at, at + quote.length(), true);
            }
        }
        Matcher others = NO_SENTENCE.matcher(text);
        while (others.find()) {
            Arrays.fill(quoted, others.start(), others.end(), true);
        }
        Matcher each = WORD.matcher(text);
        boolean before = true;
        while (each.find()) {
            boolean now = quoted[each.start()];
            must(now || !before, part + " no test quotes '" + text.substring(each.start(),
                Math.min(text.length(), each.start() + 40)).replace('\n', ' ') + "..'");
            before = now;
        }
    }

    // ---- looking

    static void must(boolean is, String what) {
        if (!is) {
            wrong++;
            System.out.println(test + ": " + what);
        }
    }

    static void due(String call, long got, long want) {
        looked++;
        must(got == want, call + " answered " + got + ", due is " + want);
    }

    /** What a NODE tells for 0 to 4: KIND, the PLACES at its HEAD, LEFT, RIGHT, and whom it MEETS. */
    static void dueNode(Tried x, int node, int kind, int head, int left, int right, int meets) {
        int[] want = {kind, head, left, right, meets};
        for (int what = 0; what < want.length; what++) {
            due("node(" + node + ", " + what + ")", x.node(node, what), want[what]);
        }
    }

    static void dueCounts(Tried x, int... want) {
        for (int what = 0; what < 15; what++) {
            due("count(" + what + ")", x.count(what), want[what]);
        }
    }

    static void dueEnding(Tried x, int... want) {
        for (int what = 0; what < 7; what++) {
            due("ending(" + what + ")", x.ending(what), want[what]);
        }
    }

    static void dueNoEnding(Tried x) {
        dueEnding(x, NONE, NONE, NONE, NONE, NONE, NONE, NONE);
    }

    static void dueReading(Tried x, String want) {
        for (int sign = 0; sign < want.length(); sign++) {
            due("reading(" + sign + ")", x.reading(sign), want.charAt(sign));
        }
        due("reading(" + want.length() + ")", x.reading(want.length()), NONE);
    }

    static void dueEndReading(Tried x, String want) {
        for (int sign = 0; sign < want.length(); sign++) {
            due("endReading(" + sign + ")", x.endReading(sign), want.charAt(sign));
        }
        due("endReading(" + want.length() + ")", x.endReading(want.length()), NONE);
    }

    /** In each state the call is refused, and no later call shows that it was made. */
    static void refused(String call, int want, Ask ask, Make... states) {
        for (Make state : states) {
            Tried asked = state.make();
            Tried spared = state.make();
            due(call, ask.ask(asked), want);
            dueAlike("after " + call + ", refused", asked, spared);
        }
    }

    /** No call tells the one from the other. What is told is gone through at its end: both are used up. */
    static void dueAlike(String name, Tried x, Tried y) {
        List<String> got = portrait(x);
        List<String> want = portrait(y);
        looked++;
        for (int i = 0; i < want.size(); i++) {
            if (!got.get(i).equals(want.get(i))) {
                must(false, name + ": " + got.get(i) + ", due is " + want.get(i));
                return;
            }
        }
    }

    private static List<String> portrait(Tried x) {
        List<String> rows = new ArrayList<>();
        addNet(x, rows);
        rows.add("fault() " + x.fault());
        rows.add("restore() " + x.restore());
        addNet(x, rows);
        rows.add("forget() " + x.forget());
        rows.add("net() " + x.net());
        rows.add("digest() behind net() " + x.digest());
        rows.add("restore() behind net() " + x.restore());
        rows.add("blank() " + x.blank());
        return rows;
    }

    /** KINDS show what is SEEN, which the digest does not. */
    private static void addNet(Tried x, List<String> rows) {
        rows.add("digest() " + x.digest());
        for (int node = 0; node < 60; node++) {
            rows.add("node(" + node + ", 5) " + x.node(node, 5));
        }
        rows.add("same() " + x.same());
        rows.add("runs(60, 7, 1) " + x.runs(60, 7, 1));
    }

    // ---- texts

    /** "*=*" and so on: so many PAIRS. */
    static String pairs(int many) {
        return "*=*,".repeat(many - 1) + "*=*";
    }

    /** So many ROUND ones, one at the LEFT of the other, with ENDS: that many again, and one. */
    static String chain(int many) {
        return "(".repeat(many) + "*" + "*)".repeat(many);
    }

    /** 80 letters, which are a NET of 26 NODES. */
    static final String EIGHTY = "a=a,b=b,c=c,d=d,e=e,f=f,g=g,h=h,(**)=*,(**)=*,(**)=*," + pairs(7);

    // ---- states

    static Tried fresh() {
        return new Tried();
    }

    /** No NET, but a text of one on THE PAGE. */
    static Tried justTyped() {
        return Tried.typed("(ab)=*");
    }

    /** A NET without NODES or OPEN WIRES: but there is one. */
    static Tried bare() {
        return Tried.of("a=a");
    }

    /** A NET where some was done and SEEN, another IMAGE of it, and a text that is none yet. */
    static Tried used() {
        Tried x = Tried.of("(ab)=[c*],d=d,{ef}=*,*=*,g=(h*)");
        x.see(0, 1, 1);
        x.see(3, 0, 4);
        x.meet(2);
        x.image();
        x.meet(0);
        x.see(3, 3, 2);
        x.join(4, 5);
        return x.type("a=b,c");
    }

    /** All full: 60 NODES, 6 SEEN, 80 letters; OPEN are b to g. Two MEETINGS: of 0, COPYING, of 2, EATING. */
    static Tried full() {
        Tried x = Tried.of("(ab)=[ac],*={de},f=g");
        x.image();
        x.run(28);
        for (int i = 0; i < 6; i++) {
            x.see(0, i % 4, i);
        }
        return x.type(EIGHTY);
    }

    static final Make[] WITHOUT_NET = {Edges::fresh, Edges::justTyped};
    static final Make[] WITH_NET = {Edges::bare, Edges::used, Edges::full};
    static final Make[] ALL = {Edges::fresh, Edges::justTyped, Edges::bare, Edges::used, Edges::full};
}
