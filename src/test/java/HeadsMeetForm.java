import java.io.IOException;
import java.lang.reflect.Array;
import java.lang.reflect.Field;
import java.lang.reflect.Method;
import java.lang.reflect.Modifier;
import java.nio.file.Files;
import java.nio.file.Path;
import java.util.ArrayList;
import java.util.Arrays;
import java.util.Collections;
import java.util.IdentityHashMap;
import java.util.List;
import java.util.Set;
import java.util.TreeSet;
import java.util.regex.Matcher;
import java.util.regex.Pattern;

/**
 * The form of the class: its face, what a look at its text can tell of LANGUAGE.md, how much room
 * an object takes, and that a call makes nothing new.
 */
public final class HeadsMeetForm {
    private static final String[] FACE = {
        "int letter(int)", "int blank()", "int fault()", "int net()", "int node(int, int)", "int as(int, int)",
        "int open(int)", "int meetings(int)", "int meet(int)", "int run(int)", "int join(int, int)", "int stop(int)",
        "int change(int, int)", "int flip(int)", "int ending(int)", "int reading(int)", "int endReading(int)",
        "int same()", "int see(int, int, int)", "int forget()", "int runs(int, int, int)", "int image()",
        "int restore()", "int count(int)", "long digest()"};
    private static final int MOST_ELEMENTS = 6000;
    private static int wrong = 0;

    public static void main(String[] args) throws IOException, IllegalAccessException {
        theFace();
        theClassesInside();
        theText(Files.readString(Path.of("src/main/java/HeadsMeet.java")));
        theRoom();
        System.out.println(wrong == 0 ? "the form is as due" : wrong + " faults of form");
        if (wrong != 0) {
            System.exit(1);
        }
    }

    private static void must(boolean is, String what) {
        if (!is) {
            wrong++;
            System.out.println("not so: " + what);
        }
    }

    private static void theFace() {
        Class<?> face = HeadsMeet.class;
        must(Modifier.isFinal(face.getModifiers()) && Modifier.isPublic(face.getModifiers()), "public and final");
        Set<String> due = new TreeSet<>(Arrays.asList(FACE));
        Set<String> found = new TreeSet<>();
        for (Method method : face.getDeclaredMethods()) {
            int modifiers = method.getModifiers();
            if (Modifier.isPrivate(modifiers) || method.isSynthetic()) {
                continue;
            }
            must(Modifier.isPublic(modifiers) && !Modifier.isStatic(modifiers), method + " is public, not static");
            StringBuilder text = new StringBuilder(method.getReturnType() + " " + method.getName() + "(");
            for (Class<?> type : method.getParameterTypes()) {
                text.append(text.charAt(text.length() - 1) == '(' ? "" : ", ").append(type);
            }
            found.add(text + ")");
        }
        must(found.equals(due), "the methods are " + due + ", not " + found);
        must(face.getDeclaredConstructors().length == 1 && face.getConstructors().length == 1, "one public constructor");
        Set<String> constants = new TreeSet<>();
        for (Field field : face.getDeclaredFields()) {
            if (!Modifier.isPrivate(field.getModifiers())) {
                constants.add(field.getName());
                must(field.getType() == int.class && Modifier.isStatic(field.getModifiers())
                    && Modifier.isFinal(field.getModifiers()) && Modifier.isPublic(field.getModifiers()), field + " is a constant");
            }
        }
        must(constants.equals(new TreeSet<>(Arrays.asList("NONE", "UNKNOWN", "OUTSIDE", "STATE", "FULL"))), "the constants");
    }

    private static void theClassesInside() {
        Class<?>[] inside = HeadsMeet.class.getDeclaredClasses();
        must(inside.length < 12, "twelve classes at most");
        Set<String> faceNames = new TreeSet<>();
        for (String row : FACE) {
            faceNames.add(row.substring(row.indexOf(' ') + 1, row.indexOf('(')));
        }
        List<Class<?>> all = new ArrayList<>(Arrays.asList(inside));
        for (Class<?> each : inside) {
            must(Modifier.isStatic(each.getModifiers()), each + " is static");
            must(!Modifier.isPublic(each.getModifiers()) && !Modifier.isProtected(each.getModifiers()), each + " is not public");
            for (Method method : each.getDeclaredMethods()) {
                must(!faceNames.contains(method.getName()), method + " has no name of the face");
            }
        }
        for (Method method : HeadsMeet.class.getDeclaredMethods()) {
            must(!Modifier.isPrivate(method.getModifiers()) || !faceNames.contains(method.getName()), method + " has no name of the face");
        }
        all.add(HeadsMeet.class);
        for (Class<?> each : all) {
            int fields = 0;
            for (Field field : each.getDeclaredFields()) {
                boolean isStatic = Modifier.isStatic(field.getModifiers());
                must(!isStatic || Modifier.isFinal(field.getModifiers()), field + " is final");
                fields += isStatic ? 0 : 1;
            }
            must(fields <= 20, each + " has twenty fields at most");
            for (Method method : each.getDeclaredMethods()) {
                must(method.getParameterCount() <= 7, method + " has seven parameters at most");
            }
        }
    }

    private static void theText(String source) {
        String code = source.replaceAll("(?s)/\\*.*?\\*/", "").replaceAll("//[^\n]*", "");
        for (String word : new String[] {"->", "::", "catch", "try", "throw", "synchronized", "assert", "finally", "package ",
            "Exact(", "System.out", "System.nano", "System.current", "Random", "Thread", "instanceof", "double", "float", "hashCode",
            "equals(", "toString", "static {"}) {
            must(!code.contains(word), "no " + word);
        }
        Matcher imports = Pattern.compile("import ([^;]+);").matcher(code);
        while (imports.find()) {
            must(imports.group(1).equals("java.util.Arrays"), "no import of " + imports.group(1));
        }
        Matcher made = Pattern.compile("(?m)^.*\\bnew\\b.*$").matcher(code);
        while (made.find()) {
            String line = made.group().trim();
            boolean field = line.startsWith("private final ");
            boolean inConstructor = line.matches("(kinds|ends|firsts) = new int\\[.*");
            must(field || inConstructor, "made in a constructor alone: " + line);
        }
        int start = -1;
        String[] lines = source.split("\n");
        for (int i = 0; i < lines.length; i++) {
            must(lines[i].length() <= 120, "a short line: " + lines[i]);
            if (lines[i].matches("( {4}| {8})[a-zA-Z].*\\(.*\\) \\{")) {
                start = i;
            } else if (start >= 0 && lines[i].matches("( {4}| {8})\\}")) {
                must(i - start < 60, "a short method: " + lines[start]);
                start = -1;
            }
        }
    }

    private static void theRoom() throws IllegalAccessException {
        HeadsMeet x = new HeadsMeet();
        int[] found = new int[2];
        weigh(x, found, Collections.newSetFromMap(new IdentityHashMap<>()));
        must(found[1] <= MOST_ELEMENTS, "an object has " + MOST_ELEMENTS + " fields and elements at most, not " + found[1]);
        System.out.println("an object is " + found[0] + " objects and arrays, " + found[1] + " fields and elements");
    }

    private static void weigh(Object object, int[] found, Set<Object> known) throws IllegalAccessException {
        if (object == null || !known.add(object)) {
            return;
        }
        found[0]++;
        if (object.getClass().isArray()) {
            found[1] += Array.getLength(object);
            return;
        }
        for (Field field : object.getClass().getDeclaredFields()) {
            if (Modifier.isStatic(field.getModifiers())) {
                continue;
            }
            found[1]++;
            if (!field.getType().isPrimitive()) {
                field.setAccessible(true);
                weigh(field.get(object), found, known);
            }
        }
    }
}
