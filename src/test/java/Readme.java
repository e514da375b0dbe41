import java.io.IOException;
import java.lang.reflect.Method;
import java.lang.reflect.Modifier;
import java.nio.file.Files;
import java.nio.file.Path;
import java.util.ArrayList;
import java.util.List;
import java.util.regex.Matcher;
import java.util.regex.Pattern;
import javax.tools.ToolProvider;

/** README.md: its examples answer what their comments say, and it tells of every call of the face. */
public final class Readme {
    private static final Pattern EXAMPLE = Pattern.compile("(?s)```java\n(.*?)```");
    private static final Pattern ANSWERED = Pattern.compile("(?m)^(plant\\..*\\)); +// (true|false|-?\\d+)(:.*)?$");

    public static void main(String[] args) throws Exception {
        String text = Files.readString(Path.of("README.md"));
        for (Method method : SerialPlant.class.getDeclaredMethods()) {
            if (Modifier.isPublic(method.getModifiers())) {
                Due.yes("README.md tells of " + method.getName(), text.contains("| `" + method.getName() + "("));
            }
        }
        List<String> examples = new ArrayList<>();
        Matcher found = EXAMPLE.matcher(text);
        while (found.find()) {
            examples.add(found.group(1));
        }
        Due.yes("README.md has examples", !examples.isEmpty());
        runAll(examples);
        Due.end();
    }

    /** Called by the examples: a call, what it answered, and what README.md says that it answers. */
    static void due(String call, long got, long want) {
        Due.is("README.md: " + call, got, want);
    }

    static void due(String call, boolean got, boolean want) {
        due(call, got ? 1 : 0, want ? 1 : 0);
    }

    /** The examples are compiled as they stand, so that what README.md shows is what is run. */
    private static void runAll(List<String> examples) throws Exception {
        StringBuilder code = new StringBuilder("final class ReadmeExamples {\n");
        for (int i = 0; i < examples.size(); i++) {
            code.append("static void example").append(i).append("() {\n");
            code.append(withChecks(examples.get(i)));
            code.append("}\n");
        }
        Class<?> compiled = compile(code.append("}\n").toString());
        for (int i = 0; i < examples.size(); i++) {
            Method example = compiled.getDeclaredMethod("example" + i);
            example.setAccessible(true);
            example.invoke(null);
        }
    }

    private static String withChecks(String example) {
        Due.yes("an example with answers", ANSWERED.matcher(example).find());
        for (String line : example.split("\n")) {
            if (line.startsWith("plant.")) {
                Due.yes("the answer of: " + line, ANSWERED.matcher(line).matches());
            }
        }
        return ANSWERED.matcher(example).replaceAll("Readme.due(\"$1\", $1, $2);");
    }

    private static Class<?> compile(String code) throws IOException, ClassNotFoundException {
        String folder = System.getProperty("java.class.path");
        Path source = Path.of(folder, "ReadmeExamples.java");
        Files.writeString(source, code);
        int failed = ToolProvider.getSystemJavaCompiler().run(null, null, null, "-cp", folder, "-d", folder, source.toString());
        Due.is("javac of the examples of README.md", failed, 0);
        return Class.forName("ReadmeExamples");
    }
}
