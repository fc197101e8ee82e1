import java.io.IOException;
import java.lang.reflect.Method;
import java.lang.reflect.Modifier;
import java.net.URL;
import java.net.URLClassLoader;
import java.nio.file.DirectoryStream;
import java.nio.file.Files;
import java.nio.file.Path;
import java.util.ArrayList;
import java.util.List;
import java.util.regex.Matcher;
import java.util.regex.Pattern;
import javax.tools.ToolProvider;

/** README.md's example answers as its comments say, and its tables tell every call, setting and test. */
public final class ReadmeTest {
    private static final Checks C = new Checks();
    private static final Path BUILD = Path.of("build/readme");
    private static final Pattern LINE = Pattern.compile("(?:int (\\w+) = )?(desk\\..*);\\s+// (-?\\d+|true|false)\\b.*");

    private final List<String> calls = new ArrayList<>();
    private final List<String> dues = new ArrayList<>();

    public static void main(String[] args) throws IOException, ReflectiveOperationException {
        String readme = Files.readString(Path.of("README.md"));
        new ReadmeTest().example(readme);
        tables(readme);
        C.end();
    }

    private void example(String readme) throws IOException, ReflectiveOperationException {
        int start = readme.indexOf("```java\n") + 8;
        String program = program(readme.substring(start, readme.indexOf("```", start)));
        C.due("the example makes a fair number of calls", calls.size() >= 10, true);
        List<?> answers = answers(program);
        for (int k = 0; k < calls.size(); k++) {
            String answer = String.valueOf(answers.get(k));
            C.due(calls.get(k) + " answers " + answer + ", README.md says " + dues.get(k),
                answer.equals(dues.get(k)), true);
        }
    }

    private String program(String block) {
        StringBuilder body = new StringBuilder();
        for (String line : block.split("\n")) {
            Matcher m = LINE.matcher(line);
            if (!m.matches()) {
                C.due("a line without an answer: " + line, line.equals("RelayDesk desk = new RelayDesk();"), true);
                body.append(line).append('\n');
                continue;
            }
            String named = m.group(1) == null ? m.group(2) : m.group(1);
            if (m.group(1) != null) {
                body.append("int ").append(named).append(" = ").append(m.group(2)).append(";\n");
            }
            body.append("answers.add(").append(named).append(");\n");
            calls.add(m.group(2));
            dues.add(m.group(3));
        }
        return "public final class ReadmeExample {\npublic static java.util.List<Object> answers() {\n"
            + "java.util.List<Object> answers = new java.util.ArrayList<>();\n" + body + "return answers;\n}\n}\n";
    }

    private static List<?> answers(String program) throws IOException, ReflectiveOperationException {
        Files.createDirectories(BUILD);
        Path source = Files.writeString(BUILD.resolve("ReadmeExample.java"), program);
        int failed = ToolProvider.getSystemJavaCompiler().run(null, null, null,
            "-cp", System.getProperty("java.class.path"), "-d", BUILD.toString(), source.toString());
        C.due("README.md's example compiles: javac", failed, 0);
        if (failed != 0) {
            C.end();
        }
        try (URLClassLoader loader = new URLClassLoader(new URL[] {BUILD.toUri().toURL()})) {
            return (List<?>) loader.loadClass("ReadmeExample").getMethod("answers").invoke(null);
        }
    }

    private static void tables(String readme) throws IOException {
        for (Method m : RelayDesk.class.getDeclaredMethods()) {
            if (Modifier.isPublic(m.getModifiers())) {
                Matcher row = Pattern.compile("(?m)^\\| `" + m.getName() + "\\(([^)]*)\\)` \\|").matcher(readme);
                boolean told = row.find();
                C.due("README.md tells the call " + m.getName(), told, true);
                if (told) {
                    int numbers = row.group(1).isEmpty() ? 0 : row.group(1).split(",").length;
                    C.due("the numbers README.md hands to " + m.getName(), numbers, m.getParameterCount());
                }
            }
        }
        settings(readme);
        try (DirectoryStream<Path> tests = Files.newDirectoryStream(Path.of("src/test/java"), "*Test.java")) {
            for (Path test : tests) {
                String name = test.getFileName().toString().replace(".java", "");
                C.due("README.md tells the test " + name, readme.contains("\n| " + name + " |"), true);
            }
        }
    }

    private static void settings(String readme) {
        Matcher row = Pattern.compile("(?m)^\\| (\\d+) \\| [A-Z]+ \\| (\\d+) \\.\\. (\\d+) \\|").matcher(readme);
        RelayDesk x = new RelayDesk();
        int told = 0;
        while (row.find()) {
            int setting = Integer.parseInt(row.group(1));
            int least = Integer.parseInt(row.group(2));
            int greatest = Integer.parseInt(row.group(3));
            C.due("the next setting of README.md", setting, told);
            C.due("set(" + setting + ", " + (least - 1) + ")", x.set(setting, least - 1), false);
            C.due("set(" + setting + ", " + least + ")", x.set(setting, least), true);
            C.due("set(" + setting + ", " + greatest + ")", x.set(setting, greatest), true);
            C.due("set(" + setting + ", " + (greatest + 1) + ")", x.set(setting, greatest + 1), false);
            told++;
        }
        C.due("the settings that README.md tells", told, 7);
    }
}
