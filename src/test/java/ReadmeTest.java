import java.io.IOException;
import java.lang.reflect.Method;
import java.lang.reflect.Modifier;
import java.nio.file.DirectoryStream;
import java.nio.file.Files;
import java.nio.file.Path;
import java.util.regex.Matcher;
import java.util.regex.Pattern;

/** README.md tells what is so: its example answers as it says, and no method and no test is left out. */
public final class ReadmeTest {
    private static final Pattern CALL = Pattern.compile("x\\.(\\w+)\\(([-\\d, ]*)\\);\\s*// (true|false|-?\\d+)\\b.*");

    public static void main(String[] args) throws IOException, ReflectiveOperationException {
        Check check = new Check();
        String readme = Files.readString(Path.of("README.md"));
        check.sentence("README.md: its example");
        runsItsExample(check, readme);
        check.sentence("README.md: every method");
        namesEveryMethod(check, readme);
        check.sentence("README.md: every test");
        namesEveryTest(check, readme);
        check.end();
    }

    private static void runsItsExample(Check check, String readme) throws ReflectiveOperationException {
        MeshRouters x = new MeshRouters();
        for (String line : readme.lines().filter(l -> l.startsWith("x.")).toList()) {
            Matcher call = CALL.matcher(line);
            boolean readable = call.matches();
            check.due("a call and its answer can be read: " + line, readable, true);
            if (readable) {
                String got = String.valueOf(answer(x, call.group(1), call.group(2)));
                check.same(line, got, call.group(3));
            }
        }
    }

    private static Object answer(MeshRouters x, String name, String list) throws ReflectiveOperationException {
        String[] parts = list.isBlank() ? new String[0] : list.split(",");
        Class<?>[] types = new Class<?>[parts.length];
        Object[] values = new Object[parts.length];
        for (int n = 0; n < parts.length; n++) {
            types[n] = int.class;
            values[n] = Integer.valueOf(parts[n].trim());
        }
        return MeshRouters.class.getMethod(name, types).invoke(x, values);
    }

    private static void namesEveryMethod(Check check, String readme) {
        for (Method m : MeshRouters.class.getDeclaredMethods()) {
            if (Modifier.isPublic(m.getModifiers())) {
                check.due(m.getName() + " has a row", readme.contains("| `" + m.getName() + "("), true);
            }
        }
    }

    private static void namesEveryTest(Check check, String readme) throws IOException {
        try (DirectoryStream<Path> tests = Files.newDirectoryStream(Path.of("src/test/java"), "*Test.java")) {
            for (Path file : tests) {
                String name = file.getFileName().toString().replace(".java", "");
                check.due(name + " has a row", readme.contains("| " + name + " |"), true);
            }
        }
    }
}
