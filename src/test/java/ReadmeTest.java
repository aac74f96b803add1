import java.io.IOException;
import java.lang.reflect.Method;
import java.lang.reflect.Modifier;
import java.nio.file.Files;
import java.nio.file.Path;
import java.util.List;
import java.util.regex.Matcher;
import java.util.regex.Pattern;
import java.util.stream.Stream;

/** README.md is for use: its examples must answer as it says, and it must name every method and every test. */
public final class ReadmeTest {
    private static final Path PAGE = Path.of("README.md");
    private static final Pattern CALL = Pattern.compile("x\\.(\\w+)\\((.*)\\);\\s+// (-?\\w+)(: .*)?");
    private static final Pattern LETTERS = Pattern.compile("for \\(char letter : \"(.*)\"\\.toCharArray\\(\\)\\) x\\.write\\(letter\\);");

    private static int examples = 0;
    private static int wrong = 0;

    private static void due(String told, boolean holds) {
        if (!holds) {
            wrong++;
            System.out.println("README.md: " + told);
        }
    }

    private static Method methodNamed(String name) {
        for (Method m : PathStream.class.getDeclaredMethods()) {
            if (Modifier.isPublic(m.getModifiers()) && m.getName().equals(name)) {
                return m;
            }
        }
        throw new IllegalArgumentException("no method " + name);
    }

    private static Object argument(String word, Class<?> type) {
        if (type == boolean.class) {
            return Boolean.valueOf(word);
        }
        if (type == long.class) {
            return Long.valueOf(word.replace("L", ""));
        }
        boolean isLetter = word.length() == 3 && word.charAt(0) == '\'';
        return isLetter ? Integer.valueOf(word.charAt(1)) : Integer.valueOf(word);
    }

    private static long answer(PathStream x, String name, String words) throws ReflectiveOperationException {
        Method m = methodNamed(name);
        Class<?>[] types = m.getParameterTypes();
        String[] given = words.isEmpty() ? new String[0] : words.split(", ");
        Object[] arguments = new Object[given.length];
        for (int i = 0; i < given.length; i++) {
            arguments[i] = argument(given[i], types[i]);
        }
        return ((Number) m.invoke(x, arguments)).longValue();
    }

    private static long number(String word) throws ReflectiveOperationException {
        boolean isConstant = Character.isUpperCase(word.charAt(0));
        return isConstant ? PathStream.class.getField(word).getInt(null) : Long.parseLong(word);
    }

    private static PathStream example(String line, PathStream x) throws ReflectiveOperationException {
        if (line.equals("PathStream x = new PathStream();")) {
            return new PathStream();
        }
        Matcher letters = LETTERS.matcher(line);
        if (letters.matches()) {
            letters.group(1).chars().forEach(x::write);
            return x;
        }
        Matcher call = CALL.matcher(line);
        if (call.matches()) {
            examples++;
            long got = answer(x, call.group(1), call.group(2));
            due(line + " answered " + got, got == number(call.group(3)));
        } else {
            due("this line can't be tried: " + line, false);
        }
        return x;
    }

    private static void examples(List<String> lines) throws ReflectiveOperationException {
        PathStream x = new PathStream();
        boolean inCode = false;
        for (String line : lines) {
            if (line.startsWith("```")) {
                inCode = line.equals("```java");
            } else if (inCode) {
                x = example(line, x);
            }
        }
        due("there are examples", examples > 0);
    }

    private static void methods(String page) {
        for (Method m : PathStream.class.getDeclaredMethods()) {
            if (Modifier.isPublic(m.getModifiers())) {
                String types = Stream.of(m.getParameterTypes()).map(Class::getName).reduce((a, b) -> a + "," + b).orElse("");
                String face = "`" + m.getName() + "(" + types + ")`";
                due("it doesn't name " + face, page.contains(face));
            }
        }
        for (String constant : List.of("UNKNOWN", "BAD", "LATE", "FULL", "NONE")) {
            due("it doesn't name " + constant, page.matches("(?s).*`" + constant + "`\\s\\(.*"));
        }
    }

    private static void tests(String page) throws IOException {
        due("it doesn't say how the tests are run", page.contains("\n    .ci/run\n"));
        try (Stream<Path> files = Files.list(Path.of("src/test/java"))) {
            files.map(file -> file.getFileName().toString().replace(".java", ""))
                .forEach(name -> due("it doesn't name " + name, page.contains("- `" + name + "`:")));
        }
    }

    public static void main(String[] args) throws IOException, ReflectiveOperationException {
        String page = Files.readString(PAGE);
        examples(page.lines().toList());
        methods(page);
        tests(page);
        System.out.println(examples + " examples, " + wrong + " faults of the page");
        if (wrong != 0) {
            System.exit(1);
        }
    }
}
