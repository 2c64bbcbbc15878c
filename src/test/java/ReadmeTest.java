import java.io.IOException;
import java.nio.charset.StandardCharsets;
import java.nio.file.Files;
import java.nio.file.Path;
import java.util.ArrayList;
import java.util.List;
import java.util.TreeSet;
import java.util.regex.Matcher;
import java.util.regex.Pattern;
import javax.tools.ToolProvider;

/** README.md: its examples compile, and each answer that it tells is the one that the class gives. */
public final class ReadmeTest {
    private static final Path README = Path.of("README.md");
    private static final Pattern BLOCK = Pattern.compile("(?s)```java\n(.*?)```");
    private static final Pattern ANSWER = Pattern.compile("(?m)^((?:int|boolean) (\\w+) = .*;) // -> (\\S+)$");

    public static void main(String[] args) throws Exception {
        String readme = Files.readString(README, StandardCharsets.UTF_8);
        examples(readme);
        table(readme);
        Kit.finish("ReadmeTest");
    }

    private static void examples(String readme) throws Exception {
        List<String> blocks = new ArrayList<>();
        for (Matcher m = BLOCK.matcher(readme); m.find();) {
            blocks.add(m.group(1));
        }
        Kit.due("blocks of Java in README.md", blocks.size(), 2);
        if (blocks.size() == 2) {
            run(blocks.get(0), blocks.get(1));
        }
    }

    /** Each answer that is told becomes a check; the class of them is compiled and run once. */
    private static void run(String helper, String example) throws Exception {
        Kit.due("answers told in README.md", ANSWER.matcher(example).results().count() > 10, true);
        String checked = ANSWER.matcher(example).replaceAll("$1 Kit.due(\"README.md: $2\", $2, $3);");
        Path folder = Files.createTempDirectory("readme");
        Path source = folder.resolve("Readme.java");
        Files.writeString(source, "final class Readme {\n" + helper + "\nstatic {\n" + checked + "\n}\n}\n");
        String path = System.getProperty("java.class.path");
        int failed = ToolProvider.getSystemJavaCompiler().run(null, null, null,
            "-proc:none", "-cp", path, "-d", folder.toString(), source.toString());
        Kit.due("README.md does not compile", failed, 0);
        if (failed == 0) {
            byte[] code = Files.readAllBytes(folder.resolve("Readme.class"));
            Class<?> made = java.lang.invoke.MethodHandles.lookup().defineClass(code);
            Class.forName(made.getName(), true, made.getClassLoader());
        }
        clear(folder);
    }

    private static void clear(Path folder) throws IOException {
        for (String name : new String[] {"Readme.java", "Readme.class"}) {
            Files.deleteIfExists(folder.resolve(name));
        }
        Files.delete(folder);
    }

    /** The table names every call of the face, and no other. */
    private static void table(String readme) {
        TreeSet<String> face = new TreeSet<>();
        for (java.lang.reflect.Method m : ThreePhases.class.getDeclaredMethods()) {
            if (java.lang.reflect.Modifier.isPublic(m.getModifiers())) {
                face.add(m.getName());
            }
        }
        TreeSet<String> told = new TreeSet<>();
        int calls = 0;
        for (String line : readme.lines().filter(l -> l.startsWith("| ")).toList()) {
            for (Matcher m = Pattern.compile("`(\\w+)`").matcher(line); m.find(); calls++) {
                told.add(m.group(1));
            }
        }
        Kit.due("README.md tells of " + told, told.equals(face), true);
        Kit.due("calls in the table", calls, face.size());
    }
}
