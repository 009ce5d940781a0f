import java.io.IOException;
import java.lang.reflect.Method;
import java.lang.reflect.Modifier;
import java.nio.file.Files;
import java.nio.file.Path;
import java.util.List;
import java.util.Set;
import java.util.TreeSet;
import java.util.regex.Matcher;
import java.util.regex.Pattern;
import java.util.stream.Collectors;
import java.util.stream.Stream;

/** README.md: each answer of its example is the class's own, and it names every call and every test. */
public final class ReadmeTest {
    private static final Check CHECK = new Check("ReadmeTest");
    private static final String MAKING = "ChimeVan van = new ChimeVan();";
    private static final List<String> TYPING =
            List.of("for (int i = 0; i < text.length(); i++) {", "van.letter(text.charAt(i));", "}");
    private static final Pattern TEXT = Pattern.compile("String text = \"([^\"]*)\";");
    private static final Pattern CALL = Pattern.compile("van\\.(\\w+)\\(([^)]*)\\);\\s+// (-?\\d+)\\b.*");

    public static void main(String[] args) throws Exception {
        String readme = Files.readString(Path.of("README.md"));
        example(readme);
        calls(readme);
        tests(readme);
        CHECK.end();
    }

    private static void example(String readme) throws Exception {
        Matcher block = Pattern.compile("(?s)```java\n(.*?)```").matcher(readme);
        holds("there is an example", block.find());
        List<String> lines = block.group(1).lines().map(String::strip).filter(line -> !line.isEmpty()).toList();
        Matcher text = TEXT.matcher(lines.get(1));
        holds("it begins with an object, a text, and its typing", lines.get(0).equals(MAKING) && text.matches()
                && lines.subList(2, 5).equals(TYPING));
        ChimeVan van = new ChimeVan();
        Check.type(van, text.group(1));
        for (String line : lines.subList(5, lines.size())) {
            Matcher call = CALL.matcher(line);
            if (call.matches()) {
                CHECK.due(line, answer(van, call.group(1), call.group(2)), Long.parseLong(call.group(3)));
            } else {
                holds("'" + line + "' is a call with its answer", false);
            }
        }
    }

    private static long answer(ChimeVan van, String name, String told) throws Exception {
        String[] words = told.isEmpty() ? new String[0] : told.split(", ");
        Object[] values = new Object[words.length];
        Class<?>[] kinds = new Class<?>[words.length];
        for (int nth = 0; nth < words.length; nth++) {
            boolean isTruth = words[nth].equals("true") || words[nth].equals("false");
            kinds[nth] = isTruth ? boolean.class : int.class;
            values[nth] = isTruth ? (Object) Boolean.valueOf(words[nth]) : (Object) Integer.valueOf(words[nth]);
        }
        return ((Number) ChimeVan.class.getMethod(name, kinds).invoke(van, values)).longValue();
    }

    private static void calls(String readme) {
        for (Method method : ChimeVan.class.getDeclaredMethods()) {
            if (Modifier.isPublic(method.getModifiers())) {
                holds("'" + method.getName() + "' is told of", readme.contains("`" + method.getName() + "("));
            }
        }
    }

    private static void tests(String readme) throws IOException {
        Set<String> named = new TreeSet<>();
        Matcher row = Pattern.compile("(?m)^\\| `(\\w+Test)` \\|").matcher(readme);
        while (row.find()) {
            named.add(row.group(1));
        }
        try (Stream<Path> files = Files.list(Path.of("src/test/java"))) {
            Set<String> there = files.map(file -> file.getFileName().toString())
                    .filter(name -> name.endsWith("Test.java")).map(name -> name.replace(".java", ""))
                    .collect(Collectors.toCollection(TreeSet::new));
            holds("tests named " + named + ", there are " + there, named.equals(there));
        }
        holds("it says how to run them", readme.contains("`.ci/run`"));
    }

    private static void holds(String what, boolean isSo) {
        CHECK.due(what, isSo ? 1 : 0, 1);
    }
}
