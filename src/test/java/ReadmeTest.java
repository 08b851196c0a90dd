import java.io.IOException;
import java.lang.reflect.Method;
import java.lang.reflect.Modifier;
import java.nio.file.Files;
import java.nio.file.Path;
import java.util.ArrayList;
import java.util.Arrays;
import java.util.List;
import java.util.Set;
import java.util.TreeSet;
import java.util.regex.Matcher;
import java.util.regex.Pattern;
import java.util.stream.Stream;

/** What README.md says of the use of the class and of running its tests; runs in the checkout's root. */
public final class ReadmeTest {
    private static final String MAKING = "LineDesk desk = new LineDesk();";
    private static final Pattern ROW = Pattern.compile(
            "desk\\.(\\w+)\\((.*?)\\); +// (-?\\d+): (?:(?!the text is).)*(?:the text is ([-\\d ]+))?");
    private static final Pattern TABLE_ROW = Pattern.compile("\\| `(\\w+)\\((.*?)\\)` \\|.*");
    private static final Pattern TEST_ROW = Pattern.compile("- `(\\w+Test)`: .*");
    private static final Path TESTS = Path.of("src/test/java");
    private static final Path SCRIPT = Path.of(".ci/run");

    public static void main(String[] args) throws IOException, ReflectiveOperationException {
        List<String> readme = Files.readAllLines(Path.of("README.md"));
        Set<String> called = runExample(exampleOf(readme));
        Due.holds("the example has every call of the face", face().equals(called));
        Due.holds("the table has every call of the face and no other", face().equals(found(readme, TABLE_ROW)));
        Due.holds("the list has every test and no other", testFiles().equals(found(readme, TEST_ROW)));
        Due.holds("the script is named", readme.contains(SCRIPT.toString()));
        Due.holds("the script can be run", Files.isExecutable(SCRIPT));
        Due.end("ReadmeTest");
    }

    private static List<String> exampleOf(List<String> readme) {
        int start = readme.indexOf("```java") + 1;
        List<String> rest = readme.subList(start, readme.size());
        return rest.subList(0, rest.indexOf("```"));
    }

    private static Set<String> runExample(List<String> example) throws ReflectiveOperationException {
        LineDesk desk = new LineDesk();
        Set<String> called = new TreeSet<>();
        Due.holds("the example makes a desk first", example.get(0).equals(MAKING));
        for (String row : example.subList(1, example.size())) {
            Matcher parts = ROW.matcher(row);
            boolean read = parts.matches();
            Due.holds("a row of the example tells a call and its answer: " + row, read);
            if (read) {
                called.add(runRow(desk, row, parts));
            }
        }
        return called;
    }

    private static String runRow(LineDesk desk, String row, Matcher parts) throws ReflectiveOperationException {
        Object[] numbers = numbersIn(parts.group(2), ", ").toArray();
        Class<?>[] types = new Class<?>[numbers.length];
        Arrays.fill(types, int.class);
        Method call = LineDesk.class.getMethod(parts.group(1), types);
        Due.is(row, (int) call.invoke(desk, numbers), Integer.parseInt(parts.group(3)));
        if (parts.group(4) != null) {
            Desks.text(row, desk, numbersIn(parts.group(4), " ").stream().mapToInt(n -> n).toArray());
        }
        return call.getName() + "/" + numbers.length;
    }

    private static List<Integer> numbersIn(String words, String between) {
        List<Integer> numbers = new ArrayList<>();
        for (String word : words.isEmpty() ? new String[0] : words.split(between)) {
            numbers.add(Integer.parseInt(word));
        }
        return numbers;
    }

    private static Set<String> face() {
        Set<String> face = new TreeSet<>();
        for (Method method : LineDesk.class.getDeclaredMethods()) {
            if (Modifier.isPublic(method.getModifiers())) {
                face.add(method.getName() + "/" + method.getParameterCount());
            }
        }
        return face;
    }

    /** The names in the rows of a form; with the number of parameters where the form has them. */
    private static Set<String> found(List<String> readme, Pattern form) {
        Set<String> names = new TreeSet<>();
        for (String row : readme) {
            Matcher parts = form.matcher(row);
            if (parts.matches()) {
                names.add(parts.groupCount() == 1 ? parts.group(1) : parts.group(1) + "/" + parameters(parts.group(2)));
            }
        }
        return names;
    }

    private static int parameters(String words) {
        return words.isEmpty() ? 0 : words.split(", ").length;
    }

    private static Set<String> testFiles() throws IOException {
        Set<String> names = new TreeSet<>();
        try (Stream<Path> files = Files.list(TESTS)) {
            files.map(file -> file.getFileName().toString())
                    .filter(name -> name.endsWith("Test.java"))
                    .forEach(name -> names.add(name.replace(".java", "")));
        }
        return names;
    }
}
