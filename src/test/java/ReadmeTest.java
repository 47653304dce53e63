import java.io.IOException;
import java.lang.reflect.Method;
import java.lang.reflect.Modifier;
import java.net.URI;
import java.nio.file.Files;
import java.nio.file.Path;
import java.util.ArrayList;
import java.util.Comparator;
import java.util.List;
import java.util.regex.Matcher;
import java.util.regex.Pattern;
import java.util.stream.Stream;
import javax.tools.JavaFileObject;
import javax.tools.SimpleJavaFileObject;
import javax.tools.ToolProvider;

/** What README.md shows is so: its example answers as it says there, and it leaves no call of the face out. */
public final class ReadmeTest {
    private static final Pattern ANSWERED = Pattern.compile("(.*);\\s+// (-?\\d+|true|false): .*");

    public static void main(String[] args) throws Exception {
        String readme = Files.readString(Path.of("README.md"));
        Calls calls = new Calls("ReadmeTest");
        dueEachCallNamed(readme, calls);
        Path folder = Files.createTempDirectory("readme");
        try {
            runExample(readme, folder, calls);
        } finally {
            remove(folder);
        }
        calls.end();
    }

    private static void dueEachCallNamed(String readme, Calls calls) {
        for (Method method : FrothShire.class.getDeclaredMethods()) {
            if (Modifier.isPublic(method.getModifiers())) {
                String named = "`" + method.getName() + "()`";
                calls.due(named + " stands in README.md", readme.contains(named), true);
            }
        }
    }

    private static void runExample(String readme, Path folder, Calls calls) throws Exception {
        List<String> blocks = javaBlocks(readme);
        calls.due("blocks of Java in README.md", blocks.size(), 2);
        if (blocks.size() != 2) {
            return;
        }
        String path = System.getProperty("java.class.path");
        List<String> options = List.of("-proc:none", "-classpath", path, "-d", folder.toString());
        for (String line : blocks.get(1).split("\n")) {
            boolean shown = line.contains("//");
            calls.due(line + " says what is answered", ANSWERED.matcher(line).matches(), shown);
        }
        boolean compiled = ToolProvider.getSystemJavaCompiler().getTask(null, null, null, options, null,
                List.of(source(blocks.get(0), blocks.get(1)))).call();
        calls.due("README.md's example compiles", compiled, true);
        if (compiled) {
            calls.due("README.md's example", runMain(folder, path), 0);
        }
    }

    /** A process of its own: its exit code says how many answers were not as README.md says. */
    private static int runMain(Path folder, String path) throws IOException, InterruptedException {
        String java = Path.of(System.getProperty("java.home"), "bin", "java").toString();
        String both = path + System.getProperty("path.separator") + folder;
        return new ProcessBuilder(java, "-cp", both, "Example").inheritIO().start().waitFor();
    }

    private static List<String> javaBlocks(String readme) {
        List<String> blocks = new ArrayList<>();
        Matcher block = Pattern.compile("(?s)```java\n(.*?)```").matcher(readme);
        while (block.find()) {
            blocks.add(block.group(1));
        }
        return blocks;
    }

    private static JavaFileObject source(String helper, String example) {
        StringBuilder text = new StringBuilder("public final class Example {\nstatic int wrong = 0;\n");
        text.append("static void due(Object got, Object want, int line) {\nif (!got.equals(want)) {\nwrong++;\n")
                .append("System.out.println(\"line \" + line + \" of README.md's example answered \" + got);\n}\n}\n")
                .append(helper).append("public static void main(String[] args) {\n");
        int line = 0;
        for (String one : example.split("\n")) {
            line++;
            Matcher answered = ANSWERED.matcher(one);
            text.append(answered.matches()
                    ? "due(" + answered.group(1) + ", " + answered.group(2) + ", " + line + ");" : one).append('\n');
        }
        String whole = text.append("System.exit(wrong);\n}\n}\n").toString();
        return new SimpleJavaFileObject(URI.create("string:///Example.java"), JavaFileObject.Kind.SOURCE) {
            @Override
            public CharSequence getCharContent(boolean ignoreErrors) {
                return whole;
            }
        };
    }

    private static void remove(Path folder) throws IOException {
        try (Stream<Path> inside = Files.walk(folder)) {
            for (Path path : inside.sorted(Comparator.reverseOrder()).toList()) {
                Files.delete(path);
            }
        }
    }
}
