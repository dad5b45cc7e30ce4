import java.io.File;
import java.io.IOException;
import java.lang.reflect.Method;
import java.lang.reflect.Modifier;
import java.nio.file.Files;
import java.nio.file.Path;
import java.util.HashMap;
import java.util.Map;
import java.util.Set;
import java.util.TreeSet;
import java.util.regex.Matcher;
import java.util.regex.Pattern;

/** README.md tells what is so: its examples are run row by row, and it names each call and each test. */
public final class ReadmeHolds {
    private static final Pattern BLOCK = Pattern.compile("(?s)```java\n(.*?)```");
    private static final Pattern NEW = Pattern.compile("HeadsMeet (\\w) = new HeadsMeet\\(\\);");
    private static final Pattern TEXT = Pattern.compile("for \\(char c : \"(.*)\"\\.toCharArray\\(\\)\\) \\{");
    private static final Pattern TYPED = Pattern.compile(" +(\\w)\\.letter\\(c\\);.*");
    private static final Pattern CALL = Pattern.compile("(\\w)\\.(\\w+)\\(([-\\d, ]*)\\); +// ('(.)'|-?\\d+)(:.*)?");
    private static int answers = 0;
    private static int wrong = 0;

    private final Map<String, HeadsMeet> objects = new HashMap<>();
    private String text = "";

    public static void main(String[] args) throws IOException, ReflectiveOperationException {
        String readme = Files.readString(Path.of("README.md"));
        Matcher blocks = BLOCK.matcher(readme);
        while (blocks.find()) {
            new ReadmeHolds().runBlock(blocks.group(1));
        }
        must(answers >= 15, "examples tell answers: " + answers);
        namesEachCall(readme);
        namesEachTest(readme);
        System.out.println(answers + " answers of the examples looked at, " + wrong + " not as due");
        if (wrong != 0) {
            System.exit(1);
        }
    }

    private static void must(boolean is, String what) {
        if (!is) {
            wrong++;
            System.out.println("not so: " + what);
        }
    }

    private void runBlock(String block) throws ReflectiveOperationException {
        for (String row : block.split("\n")) {
            Matcher made = NEW.matcher(row);
            Matcher told = TEXT.matcher(row);
            Matcher typed = TYPED.matcher(row);
            Matcher call = CALL.matcher(row);
            if (made.matches()) {
                objects.put(made.group(1), new HeadsMeet());
            } else if (told.matches()) {
                text = told.group(1);
            } else if (typed.matches()) {
                text.chars().forEach(objects.get(typed.group(1))::letter);
            } else if (call.matches()) {
                lookAt(row, call);
            } else {
                must(row.equals("}"), "a row that can be run: " + row);
            }
        }
    }

    private void lookAt(String row, Matcher call) throws ReflectiveOperationException {
        String[] words = call.group(3).isEmpty() ? new String[0] : call.group(3).split(", ");
        Class<?>[] types = new Class<?>[words.length];
        Object[] numbers = new Object[words.length];
        for (int i = 0; i < words.length; i++) {
            types[i] = int.class;
            numbers[i] = Integer.valueOf(words[i]);
        }
        Method method = HeadsMeet.class.getMethod(call.group(2), types);
        long got = ((Number) method.invoke(objects.get(call.group(1)), numbers)).longValue();
        long want = call.group(5) != null ? call.group(5).charAt(0) : Long.parseLong(call.group(4));
        answers++;
        must(got == want, row + " answered " + got);
    }

    private static void namesEachCall(String readme) {
        for (Method method : HeadsMeet.class.getDeclaredMethods()) {
            if (Modifier.isPublic(method.getModifiers())) {
                must(Pattern.compile("[|,] `" + method.getName() + "\\(").matcher(readme).find(), "it names " + method.getName());
            }
        }
    }

    private static void namesEachTest(String readme) {
        Set<String> named = new TreeSet<>();
        Matcher names = Pattern.compile("\\| `src/test/java/(\\w+\\.java)` \\|").matcher(readme);
        while (names.find()) {
            named.add(names.group(1));
        }
        String[] files = new File("src/test/java").list();
        must(files != null && named.equals(Set.of(files)), "it names each test: " + named);
    }
}
