import java.io.IOException;
import java.lang.reflect.Method;
import java.nio.file.Files;
import java.nio.file.Path;
import java.util.List;
import java.util.regex.Matcher;
import java.util.regex.Pattern;
import java.util.stream.Collectors;
import java.util.stream.Stream;

/** README.md names every call, finding and test, and its example answers as it says there. */
public final class ReadmeTest {
    private static final Path DOCUMENT = Path.of("../shared/DOC.md");
    private static final Path README = Path.of("README.md");
    private static final Path TESTS = Path.of("src/test/java");

    private static int checks = 0;
    private static int wrong = 0;

    public static void main(String[] args) throws Exception {
        String document = Files.readString(DOCUMENT);
        String readme = Files.readString(README);
        calls(document, readme);
        findings(document, readme);
        tests(readme);
        example(readme);
        System.out.println(checks + " checks, " + wrong + " wrong");
        if (wrong != 0) {
            System.exit(1);
        }
    }

    private static void must(boolean holds, String otherwise) {
        checks++;
        if (!holds) {
            wrong++;
            System.out.println(otherwise);
        }
    }

    /** A row of a table for each, with the document's own names of what it takes. */
    private static void calls(String document, String readme) {
        Matcher face = Pattern.compile("(?m)^    public (?:int|long) (\\w+)\\((.*)\\);$").matcher(document);
        int seen = 0;
        while (face.find()) {
            String row = "\n| `" + face.group(1) + "(" + face.group(2).replaceAll("(int|long) ", "") + ")` | ";
            must(readme.contains(row), "README.md has no row for " + face.group());
            seen++;
        }
        must(seen == 42, "the document's face has " + seen + " calls");
        long rows = readme.lines().filter(line -> line.matches("\\| `\\w+\\(.*")).count();
        must(rows == seen, "README.md has " + rows + " rows for " + seen + " calls");
    }

    private static void findings(String document, String readme) {
        Matcher named = Pattern.compile("(-10000000\\d\\d) ([A-Z]+)").matcher(document);
        int seen = 0;
        while (named.find()) {
            String row = "\n| " + named.group(1) + " | " + named.group(2) + " | ";
            must(readme.contains(row), "README.md has no row for " + named.group());
            seen++;
        }
        must(seen == 7, "the document names " + seen + " findings");
    }

    private static void tests(String readme) throws IOException {
        must(readme.contains("\n.ci/run\n"), "README.md doesn't tell of .ci/run");
        List<String> names;
        try (Stream<Path> files = Files.list(TESTS)) {
            names = files.map(file -> file.getFileName().toString().replace(".java", "")).collect(Collectors.toList());
        }
        for (String name : names) {
            must(readme.contains("`" + name + "`"), "README.md doesn't tell of " + name);
        }
        Matcher told = Pattern.compile("`(\\w+Test)`").matcher(readme);
        while (told.find()) {
            must(names.contains(told.group(1)), "README.md tells of " + told.group(1) + ", which there isn't");
        }
    }

    /** Each line's remark begins with the answer. */
    private static void example(String readme) throws ReflectiveOperationException {
        Matcher block = Pattern.compile("(?s)```java\n(.*?)```").matcher(readme);
        if (!block.find()) {
            must(false, "README.md has no example");
            return;
        }
        List<String> lines = block.group(1).lines().collect(Collectors.toList());
        must(lines.get(0).equals("ComeIfShe party = new ComeIfShe();"), "the example begins with " + lines.get(0));
        ComeIfShe party = new ComeIfShe();
        Pattern form = Pattern.compile("party\\.(\\w+)\\((.*)\\); +// (-?\\d+)\\b.*");
        for (String line : lines.subList(1, lines.size())) {
            Matcher call = form.matcher(line);
            boolean matches = call.matches();
            must(matches, "no call with its answer: " + line);
            if (matches) {
                long got = answer(party, call.group(1), call.group(2));
                must(got == Long.parseLong(call.group(3)), line + " answered " + got);
            }
        }
    }

    private static long answer(ComeIfShe party, String name, String told) throws ReflectiveOperationException {
        String[] args = told.isEmpty() ? new String[0] : told.split(", ");
        for (Method method : ComeIfShe.class.getMethods()) {
            if (method.getName().equals(name) && method.getDeclaringClass() == ComeIfShe.class) {
                Object[] values = new Object[args.length];
                for (int i = 0; i < args.length; i++) {
                    values[i] = args[i].startsWith("'") ? (int) args[i].charAt(1) : Integer.parseInt(args[i]);
                }
                return ((Number) method.invoke(party, values)).longValue();
            }
        }
        throw new NoSuchMethodException(name);
    }
}
