import java.io.IOException;
import java.lang.reflect.Method;
import java.lang.reflect.Modifier;
import java.nio.file.Files;
import java.nio.file.Path;
import java.util.List;
import java.util.regex.Matcher;
import java.util.regex.Pattern;
import java.util.stream.Stream;

/** README.md says what is so: its example answers as told, and it names every call and every test. */
public final class ReadmeTest {
    private static final Pattern CALL = Pattern.compile("^x\\.(\\w+)\\(([^)]*)\\);\\s+// (-?\\d+):");
    private static final Pattern TEXT = Pattern.compile("\"([^\"]*)\"\\.toCharArray");

    public static void main(String[] args) throws IOException {
        String readme = Files.readString(Path.of("README.md"));
        example(readme);
        for (Method m : ClawCase.class.getDeclaredMethods()) {
            if (Modifier.isPublic(m.getModifiers())) {
                boolean named = readme.contains("`" + m.getName() + "`");
                Due.is("README.md names " + m.getName(), named ? 1 : 0, 1);
            }
        }
        List<Path> tests;
        try (Stream<Path> there = Files.list(Path.of("src/test/java"))) {
            tests = there.filter(p -> p.toString().endsWith("Test.java")).toList();
        }
        for (Path test : tests) {
            String name = test.getFileName().toString().replace(".java", "");
            Due.is("README.md names " + name, readme.contains("| " + name + " |") ? 1 : 0, 1);
        }
        Due.end();
    }

    private static void example(String readme) {
        int begin = readme.indexOf("```java");
        int end = readme.indexOf("```", begin + 3);
        Due.is("README.md has an example", begin >= 0 && end > begin ? 1 : 0, 1);
        Script script = new Script();
        int calls = 0;
        for (String line : readme.substring(Math.max(0, begin), Math.max(0, end)).split("\n")) {
            Matcher text = TEXT.matcher(line);
            Matcher call = CALL.matcher(line);
            if (text.find()) {
                script.add("tell " + text.group(1) + " = " + text.group(1).length());
            } else if (call.find()) {
                String numbers = call.group(2).replace(",", "");
                script.add((call.group(1) + " " + numbers).trim() + " = " + call.group(3));
                calls++;
            }
        }
        Due.is("README.md's example has calls", Math.min(1, calls), 1);
        script.run("README.md");
    }
}
