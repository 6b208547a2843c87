import java.lang.reflect.Method;
import java.lang.reflect.Modifier;
import java.nio.file.Files;
import java.nio.file.Path;
import java.util.List;
import java.util.Set;
import java.util.TreeSet;
import java.util.regex.Matcher;
import java.util.regex.Pattern;

/** README.md's examples are done line by line, and its tables are held against the class. */
public final class ReadmeTest {
    private static final Pattern MADE = Pattern.compile("NearlyKnown x = new NearlyKnown\\(\\);");
    private static final Pattern WRITTEN = Pattern.compile("for \\(char c : \"([^\"]*)\"\\.toCharArray\\(\\)\\) x\\.write\\(c\\);");
    private static final Pattern CALLED = Pattern.compile("x\\.(\\w+)\\(([^)]*)\\); +// (-?\\d+)(:.*)?");
    private static final Pattern LISTED = Pattern.compile("\\| `(\\w+)\\(([^)]*)\\)` \\| (\\d+) \\|.*");
    private static final Pattern NUMBERED = Pattern.compile("\\| `(\\w+)` \\| (-\\d+) \\|.*|`(NONE)` \\((-1)\\) .*");

    private static int wrong = 0;
    private static int lines = 0;

    private static void fail(String what) {
        wrong++;
        System.out.println(what);
    }

    private static int call(NearlyKnown x, String name, String given) throws ReflectiveOperationException {
        String[] texts = given.isBlank() ? new String[0] : given.split(", ");
        Class<?>[] types = new Class<?>[texts.length];
        Object[] numbers = new Object[texts.length];
        for (int i = 0; i < texts.length; i++) {
            types[i] = int.class;
            numbers[i] = Integer.valueOf(texts[i]);
        }
        return (int) NearlyKnown.class.getMethod(name, types).invoke(x, numbers);
    }

    /** Does one line of an example: the object that the next line is about. */
    private static NearlyKnown does(NearlyKnown x, String line) throws ReflectiveOperationException {
        lines++;
        Matcher written = WRITTEN.matcher(line);
        Matcher called = CALLED.matcher(line);
        if (MADE.matcher(line).matches()) {
            return new NearlyKnown();
        }
        if (x != null && written.matches()) {
            for (char c : written.group(1).toCharArray()) {
                x.write(c);
            }
        } else if (x != null && called.matches()) {
            int got = call(x, called.group(1), called.group(2));
            if (got != Integer.parseInt(called.group(3))) {
                fail("README.md: " + line + " but it answers " + got);
            }
        } else {
            fail("README.md has a line that is not looked at: " + line);
        }
        return x;
    }

    private static void doExamples(List<String> readme) throws ReflectiveOperationException {
        NearlyKnown x = null;
        boolean inside = false;
        for (String line : readme) {
            if (line.startsWith("```")) {
                inside = line.equals("```java");
                x = null;
            } else if (inside) {
                x = does(x, line);
            }
        }
        if (lines == 0) {
            fail("README.md has no example");
        }
    }

    private static void lookAtCalls(List<String> readme) {
        Set<String> listed = new TreeSet<>();
        int promise = 2;
        for (String line : readme) {
            Matcher m = LISTED.matcher(line);
            if (m.matches()) {
                listed.add(m.group(1) + "/" + (m.group(2).isEmpty() ? 0 : m.group(2).split(",").length));
                if (Integer.parseInt(m.group(3)) != promise++) {
                    fail("README.md's calls are not by promises: " + line);
                }
            }
        }
        Set<String> face = new TreeSet<>();
        for (Method m : NearlyKnown.class.getDeclaredMethods()) {
            if (Modifier.isPublic(m.getModifiers())) {
                face.add(m.getName() + "/" + m.getParameterCount());
            }
        }
        if (!listed.equals(face)) {
            fail("README.md tells of " + listed + ", the class has " + face);
        }
    }

    private static void lookAtConstants(List<String> readme) throws ReflectiveOperationException {
        int found = 0;
        for (String line : readme) {
            Matcher m = NUMBERED.matcher(line);
            if (m.matches()) {
                int group = m.group(1) == null ? 3 : 1;
                found++;
                if (NearlyKnown.class.getField(m.group(group)).getInt(null) != Integer.parseInt(m.group(group + 1))) {
                    fail("README.md: " + line);
                }
            }
        }
        if (found != 5) {
            fail("README.md tells of " + found + " constants");
        }
    }

    /** Every test program, and what they share, is told of by its name. */
    private static void lookAtTests(String readme) throws java.io.IOException {
        try (var files = Files.list(Path.of("src/test/java"))) {
            files.map(file -> file.getFileName().toString().replace(".java", "")).forEach(name -> {
                if (!readme.contains("`" + name + "`")) {
                    fail("README.md does not tell of " + name);
                }
            });
        }
    }

    public static void main(String[] args) throws Exception {
        Path page = Path.of("README.md");
        List<String> readme = Files.readAllLines(page);
        doExamples(readme);
        lookAtCalls(readme);
        lookAtConstants(readme);
        lookAtTests(Files.readString(page));
        System.out.println("readme: " + lines + " lines of examples, " + wrong + " not as due");
        if (wrong != 0) {
            System.exit(1);
        }
    }
}
