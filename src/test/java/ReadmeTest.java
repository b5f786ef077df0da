import java.io.IOException;
import java.lang.reflect.Field;
import java.lang.reflect.Method;
import java.lang.reflect.Modifier;
import java.nio.file.Files;
import java.nio.file.Path;
import java.util.regex.Matcher;
import java.util.regex.Pattern;

/** What README.md says of the class: its examples answer so, and its tables name all of the face. Run in the project's folder. */
public final class ReadmeTest {
    private static final Due D = new Due();
    private static final Pattern EXAMPLE = Pattern.compile("```java\n(.*?)```", Pattern.DOTALL);
    private static final Pattern CALL = Pattern.compile("x\\.(\\w+\\([^)]*\\)); +// (-?\\d+): .+");
    private static final Pattern TEXT = Pattern.compile("for \\(char c : \"(.*)\"\\.toCharArray\\(\\)\\) \\{ x\\.type\\(c\\); \\}");

    public static void main(String[] args) throws IOException {
        String page = Files.readString(Path.of("README.md"));
        examples(page);
        methods(page);
        constants(page);
        tests(page);
        D.end();
    }

    private static void examples(String page) {
        Matcher m = EXAMPLE.matcher(page);
        int count = 0;
        while (m.find()) {
            count++;
            D.about("example " + count);
            D.run(runOf(m.group(1)));
        }
        D.due("examples", count, 2);
    }

    private static String runOf(String example) {
        StringBuilder run = new StringBuilder();
        String[] lines = example.split("\n");
        D.holds("it begins with a new object", lines[0].equals("OnceLetters x = new OnceLetters();"));
        for (int i = 1; i < lines.length; i++) {
            Matcher call = CALL.matcher(lines[i]);
            Matcher text = TEXT.matcher(lines[i]);
            if (call.matches()) {
                run.append(call.group(1)).append(" = ").append(call.group(2)).append("; ");
            } else {
                D.holds(lines[i] + " is read", text.matches());
                run.append("types('").append(text.group(1)).append("'); ");
            }
        }
        return run.toString();
    }

    private static void methods(String page) {
        D.about("methods");
        for (Method method : OnceLetters.class.getDeclaredMethods()) {
            if (Modifier.isPublic(method.getModifiers())) {
                int count = method.getParameterCount();
                String list = count == 0 ? "" : "\\w+" + ", \\w+".repeat(count - 1);
                Pattern row = Pattern.compile("\\| `" + method.getName() + "\\(" + list + "\\)` \\| .+ \\| .+ \\|");
                D.holds(method.getName() + " has a row", row.matcher(page).find());
            }
        }
    }

    private static void constants(String page) throws IOException {
        D.about("constants");
        for (Field field : OnceLetters.class.getFields()) {
            try {
                int value = field.getInt(null);
                String row = value < 0 ? "| " + value + " | `" + field.getName() + "` | " : "`" + field.getName() + "` (" + value + ")";
                D.holds(row + " stands there", page.contains(row));
            } catch (IllegalAccessException e) {
                throw new IOException(e);
            }
        }
    }

    private static void tests(String page) throws IOException {
        D.about("tests");
        D.holds("how they are run", page.contains("\n    .ci/run\n") && Files.isExecutable(Path.of(".ci/run")));
        try (var files = Files.list(Path.of("src/test/java"))) {
            for (Path file : files.sorted().toList()) {
                String name = file.getFileName().toString().replace(".java", "");
                if (name.endsWith("Test")) {
                    D.holds(name, page.contains("`" + name + "`") || name.startsWith("EdgesOf") && page.contains("`EdgesOf...Test`"));
                }
            }
        }
    }
}
