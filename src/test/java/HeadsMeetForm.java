import java.io.IOException;
import java.lang.reflect.Array;
import java.lang.reflect.Field;
import java.lang.reflect.Method;
import java.lang.reflect.Modifier;
import java.nio.file.Files;
import java.nio.file.Path;
import java.util.ArrayList;
import java.util.Arrays;
import java.util.Collections;
import java.util.IdentityHashMap;
import java.util.List;
import java.util.Map;
import java.util.Set;
import java.util.TreeMap;
import java.util.TreeSet;
import java.util.regex.Matcher;
import java.util.regex.Pattern;

/**
 * The form of the class: its face, what a look at its text can tell of LANGUAGE.md, how much room
 * an object takes, and that a call makes nothing new.
 */
public final class HeadsMeetForm {
    private static final String[] FACE = {
        "int letter(int)", "int blank()", "int fault()", "int net()", "int node(int, int)", "int as(int, int)",
        "int open(int)", "int meetings(int)", "int meet(int)", "int run(int)", "int join(int, int)", "int stop(int)",
        "int change(int, int)", "int flip(int)", "int ending(int)", "int reading(int)", "int endReading(int)",
        "int same()", "int see(int, int, int)", "int forget()", "int runs(int, int, int)", "int image()",
        "int restore()", "int count(int)", "long digest()"};
    private static final int MOST_ELEMENTS = 6000;
    private static final int MOST_DEPTH = 8;
    private static int wrong = 0;

    public static void main(String[] args) throws IOException, IllegalAccessException {
        theFace();
        theClassesInside();
        String source = Files.readString(Path.of("src/main/java/HeadsMeet.java"));
        theText(source);
        theDepthOfCalls(withoutComments(source));
        theDocument(Files.readString(Path.of("../shared/DOC.md")), source);
        theRoom();
        System.out.println(wrong == 0 ? "the form is as due" : wrong + " faults of form");
        if (wrong != 0) {
            System.exit(1);
        }
    }

    private static void must(boolean is, String what) {
        if (!is) {
            wrong++;
            System.out.println("not so: " + what);
        }
    }

    private static void theFace() {
        Class<?> face = HeadsMeet.class;
        must(Modifier.isFinal(face.getModifiers()) && Modifier.isPublic(face.getModifiers()), "public and final");
        Set<String> due = new TreeSet<>(Arrays.asList(FACE));
        Set<String> found = new TreeSet<>();
        for (Method method : face.getDeclaredMethods()) {
            int modifiers = method.getModifiers();
            if (Modifier.isPrivate(modifiers) || method.isSynthetic()) {
                continue;
            }
            must(Modifier.isPublic(modifiers) && !Modifier.isStatic(modifiers), method + " is public, not static");
            StringBuilder text = new StringBuilder(method.getReturnType() + " " + method.getName() + "(");
            for (Class<?> type : method.getParameterTypes()) {
                text.append(text.charAt(text.length() - 1) == '(' ? "" : ", ").append(type);
            }
            found.add(text + ")");
        }
        must(found.equals(due), "the methods are " + due + ", not " + found);
        must(face.getDeclaredConstructors().length == 1 && face.getConstructors().length == 1, "one public constructor");
        Set<String> constants = new TreeSet<>();
        for (Field field : face.getDeclaredFields()) {
            if (!Modifier.isPrivate(field.getModifiers())) {
                constants.add(field.getName());
                must(field.getType() == int.class && Modifier.isStatic(field.getModifiers())
                    && Modifier.isFinal(field.getModifiers()) && Modifier.isPublic(field.getModifiers()), field + " is a constant");
            }
        }
        must(constants.equals(new TreeSet<>(Arrays.asList("NONE", "UNKNOWN", "OUTSIDE", "STATE", "FULL"))), "the constants");
    }

    private static void theClassesInside() {
        Class<?>[] inside = HeadsMeet.class.getDeclaredClasses();
        must(inside.length < 12, "twelve classes at most");
        Set<String> faceNames = new TreeSet<>();
        for (String row : FACE) {
            faceNames.add(row.substring(row.indexOf(' ') + 1, row.indexOf('(')));
        }
        List<Class<?>> all = new ArrayList<>(Arrays.asList(inside));
        for (Class<?> each : inside) {
            must(Modifier.isStatic(each.getModifiers()), each + " is static");
            must(!Modifier.isPublic(each.getModifiers()) && !Modifier.isProtected(each.getModifiers()), each + " is not public");
            for (Method method : each.getDeclaredMethods()) {
                must(!faceNames.contains(method.getName()), method + " has no name of the face");
            }
        }
        for (Method method : HeadsMeet.class.getDeclaredMethods()) {
            must(!Modifier.isPrivate(method.getModifiers()) || !faceNames.contains(method.getName()), method + " has no name of the face");
        }
        all.add(HeadsMeet.class);
        for (Class<?> each : all) {
            int fields = 0;
            for (Field field : each.getDeclaredFields()) {
                boolean isStatic = Modifier.isStatic(field.getModifiers());
                must(!isStatic || Modifier.isFinal(field.getModifiers()), field + " is final");
                fields += isStatic ? 0 : 1;
            }
            must(fields <= 20, each + " has twenty fields at most");
            for (Method method : each.getDeclaredMethods()) {
                must(method.getParameterCount() <= 7, method + " has seven parameters at most");
            }
        }
    }

    private static String withoutComments(String source) {
        return source.replaceAll("(?s)/\\*.*?\\*/", "").replaceAll("//[^\n]*", "");
    }

    private static void theText(String source) {
        String code = withoutComments(source);
        for (String word : new String[] {"->", "::", "catch", "try", "throw", "synchronized", "assert", "finally", "package ",
            "Exact(", "System.out", "System.nano", "System.current", "Random", "Thread", "instanceof", "double", "float", "hashCode",
            "equals(", "toString", "static {"}) {
            must(!code.contains(word), "no " + word);
        }
        Matcher imports = Pattern.compile("import ([^;]+);").matcher(code);
        while (imports.find()) {
            must(imports.group(1).equals("java.util.Arrays"), "no import of " + imports.group(1));
        }
        Matcher made = Pattern.compile("(?m)^.*\\bnew\\b.*$").matcher(code);
        while (made.find()) {
            String line = made.group().trim();
            boolean field = line.startsWith("private final ");
            boolean inConstructor = line.matches("(kinds|ends|firsts) = new int\\[.*");
            must(field || inConstructor, "made in a constructor alone: " + line);
        }
        int start = -1;
        String[] lines = source.split("\n");
        for (int i = 0; i < lines.length; i++) {
            must(lines[i].length() <= 120, "a short line: " + lines[i]);
            if (lines[i].matches("( {4}| {8})[a-zA-Z].*\\(.*\\) \\{")) {
                start = i;
            } else if (start >= 0 && lines[i].matches("( {4}| {8})\\}")) {
                must(i - start < 60, "a short method: " + lines[start]);
                start = -1;
            }
        }
    }

    /** Calls are told by their names alone, so a call counts as one of each method that has the name. */
    private static void theDepthOfCalls(String code) {
        Map<String, Set<String>> calls = new TreeMap<>();
        Set<String> within = new TreeSet<>();
        Pattern head = Pattern.compile("^(?: {4}| {8})[a-zA-Z][\\w\\[\\] ]* (\\w+)\\([^()]*\\) \\{$");
        Pattern call = Pattern.compile("(\\w+)\\(");
        for (String line : code.split("\n")) {
            Matcher heads = head.matcher(line);
            if (heads.matches()) {
                within = calls.computeIfAbsent(heads.group(1), name -> new TreeSet<>());
                continue;
            }
            Matcher found = call.matcher(line);
            while (found.find()) {
                within.add(found.group(1));
            }
        }
        for (String row : FACE) {
            String name = row.substring(row.indexOf(' ') + 1, row.indexOf('('));
            must(calls.containsKey(name), "the body of " + name + " is found");
            int depth = depthOf(name, calls, new ArrayList<>());
            must(depth <= MOST_DEPTH, name + " calls " + MOST_DEPTH + " deep at most, not " + depth);
        }
    }

    private static int depthOf(String name, Map<String, Set<String>> calls, List<String> open) {
        must(!open.contains(name), "no recursion: " + open + " " + name);
        if (!calls.containsKey(name) || open.contains(name)) {
            return 0;
        }
        open.add(name);
        int most = 0;
        for (String each : calls.get(name)) {
            most = Math.max(most, depthOf(each, calls, open));
        }
        open.remove(name);
        return most + 1;
    }

    /** The face is that of the document, and has its headings where the document says. */
    private static void theDocument(String document, String source) {
        Matcher rows = Pattern.compile("public (int|long) (\\w+)\\(([^)]*)\\);").matcher(document);
        List<String> face = new ArrayList<>();
        while (rows.find()) {
            face.add(rows.group(1) + " " + rows.group(2) + "(" + rows.group(3).replaceAll("int \\w+", "int") + ")");
            must(source.contains("    public " + rows.group(1) + " " + rows.group(2) + "(" + rows.group(3) + ") {"),
                rows.group() + " stands in the class, its arguments by their names");
        }
        must(face.equals(Arrays.asList(FACE)), "the face of the document is " + face);
        must(source.contains(line(document, "public static final int NONE")), "the constants are as in the document");
        Matcher headings = Pattern.compile("Ahead of the calls `(\\w+)`.* the interface says: ---- (.*)\\.").matcher(document);
        int found = 0;
        while (headings.find()) {
            found++;
            Pattern there = Pattern.compile("// ---- " + headings.group(2) + "\\s+public (int|long) " + headings.group(1) + "\\(");
            must(there.matcher(source).find(), "'" + headings.group(2) + "' stands ahead of " + headings.group(1));
        }
        must(found == 6, "six headings, not " + found);
    }

    private static String line(String text, String words) {
        for (String line : text.split("\n")) {
            if (line.contains(words)) {
                return line.trim();
            }
        }
        return "no line has " + words;
    }

    private static void theRoom() throws IllegalAccessException {
        HeadsMeet x = new HeadsMeet();
        int[] found = new int[2];
        weigh(x, found, Collections.newSetFromMap(new IdentityHashMap<>()));
        must(found[1] <= MOST_ELEMENTS, "an object has " + MOST_ELEMENTS + " fields and elements at most, not " + found[1]);
        System.out.println("an object is " + found[0] + " objects and arrays, " + found[1] + " fields and elements");
    }

    private static void weigh(Object object, int[] found, Set<Object> known) throws IllegalAccessException {
        if (object == null || !known.add(object)) {
            return;
        }
        found[0]++;
        if (object.getClass().isArray()) {
            found[1] += Array.getLength(object);
            return;
        }
        for (Field field : object.getClass().getDeclaredFields()) {
            if (Modifier.isStatic(field.getModifiers())) {
                continue;
            }
            found[1]++;
            if (!field.getType().isPrimitive()) {
                field.setAccessible(true);
                weigh(field.get(object), found, known);
            }
        }
    }
}
