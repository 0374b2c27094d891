import java.io.IOException;
import java.lang.reflect.Field;
import java.lang.reflect.Method;
import java.lang.reflect.Modifier;
import java.nio.charset.StandardCharsets;
import java.nio.file.Files;
import java.nio.file.Path;
import java.util.regex.Matcher;
import java.util.regex.Pattern;

/** README.md tells the truth: its examples answer what it says, and no call and no error is left out. */
public final class ReadmeTest {
    private static final Pattern EXAMPLE = Pattern.compile("(?s)```java\n(.*?)```");
    private static final Pattern CALL = Pattern.compile("sums\\.(\\w+)\\((.*?)\\); *// (-?\\w+).*");
    private static final Pattern TYPED = Pattern.compile("for \\(char character : \"(.*)\"\\.toCharArray.*");
    private static final Due DUE = new Due();

    public static void main(String[] args) throws IllegalAccessException, IOException {
        String readme = Files.readString(Path.of("README.md"), StandardCharsets.UTF_8);
        Matcher examples = EXAMPLE.matcher(readme);
        int found = 0;
        while (examples.find()) {
            found++;
            example(examples.group(1));
        }
        DUE.is("the examples of README.md", found, 2);
        names(readme);
        tests(readme);
        DUE.end();
    }

    private static void yes(String what, boolean holds) {
        DUE.is(what, holds ? 1 : 0, 1);
    }

    private static void example(String lines) {
        BranchedSums sums = new BranchedSums();
        for (String line : lines.split("\n")) {
            Matcher call = CALL.matcher(line);
            Matcher typed = TYPED.matcher(line);
            if (call.matches()) {
                String words = call.group(1) + " " + arguments(call.group(2));
                DUE.is("README.md: " + line, Call.of(words).on(sums), Call.number(call.group(3)));
            } else if (typed.matches()) {
                for (char character : typed.group(1).toCharArray()) sums.type(character);
            } else {
                yes("README.md: " + line + " is a line that is tested",
                    line.isBlank() || line.equals("BranchedSums sums = new BranchedSums();"));
            }
        }
    }

    private static String arguments(String told) {
        boolean character = told.matches("'.'");
        return character ? "" + (int) told.charAt(1) : told.replace(",", "");
    }

    private static void names(String readme) throws IllegalAccessException {
        for (Method method : BranchedSums.class.getDeclaredMethods()) {
            boolean isPublic = Modifier.isPublic(method.getModifiers());
            yes("README.md tells what " + method.getName() + " is for",
                !isPublic || readme.matches("(?s).*\\| [^\n|]*`" + method.getName() + "[`(][^\n]*\\|\n.*"));
        }
        for (Field field : BranchedSums.class.getDeclaredFields()) {
            if (Modifier.isPublic(field.getModifiers())) {
                String row = "| `" + field.getName() + "` | " + field.getInt(null) + " |";
                yes("README.md has the row " + row, readme.contains(row));
            }
        }
    }

    /** Each test of the project stands in README.md, and each that stands there is one. */
    private static void tests(String readme) throws IOException {
        yes("README.md tells how the tests are run", readme.contains("\n    bash .ci/run\n"));
        int files = 0;
        try (var listed = Files.list(Path.of("src/test/java"))) {
            for (Path file : (Iterable<Path>) listed::iterator) {
                String name = file.getFileName().toString().replace(".java", "");
                if (!name.endsWith("Test")) continue;
                files++;
                yes("README.md names " + name, readme.contains("\n- `" + name + "`: "));
            }
        }
        Matcher named = Pattern.compile("\n- `\\w+Test`: ").matcher(readme);
        DUE.is("the tests that README.md names", named.results().count(), files);
    }
}
