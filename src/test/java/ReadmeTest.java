import java.lang.reflect.Method;
import java.net.URL;
import java.net.URLClassLoader;
import java.nio.charset.StandardCharsets;
import java.nio.file.Files;
import java.nio.file.Path;
import java.util.ArrayList;
import java.util.List;
import java.util.regex.Matcher;
import java.util.regex.Pattern;
import javax.tools.ToolProvider;

/** README.md: its Java compiles, each call that it shows answers what stands behind it, and no call is left out. */
public final class ReadmeTest {
    private static final Check CHECK = new Check();
    private static final Pattern BLOCK = Pattern.compile("(?s)```java\\n(.*?)```");
    private static final Pattern SHOWN = Pattern.compile("x\\.(\\w+)\\((.*?)\\);(?: *// (-?\\w+)(?::.*)?)?");

    /** The calls that README.md shows, in their order, and what it says that each answers. */
    private static final List<String> CALLS = new ArrayList<>();
    private static final List<String> DUE = new ArrayList<>();

    public static void main(String[] args) throws Exception {
        String readme = Files.readString(Path.of("README.md"), StandardCharsets.UTF_8);
        List<String> got = answers(compiled(program(readme)));
        CHECK.is("calls that were made", got.size(), CALLS.size());
        for (int k = 0; k < Math.min(got.size(), CALLS.size()); k++) {
            CHECK.same(CALLS.get(k), got.get(k), DUE.get(k));
        }
        CHECK.yes("calls are shown", CALLS.size() > 60);
        CHECK.yes("an object is used for 512 calls", CALLS.size() <= 400);
        everyCallIsShown();
        filesAreThere(readme);
        CHECK.close();
    }

    /** The README's functions as they are, and behind them its calls as one run that keeps what they answer. */
    private static String program(String readme) {
        StringBuilder functions = new StringBuilder();
        StringBuilder run = new StringBuilder();
        Matcher block = BLOCK.matcher(readme);
        while (block.find()) {
            if (block.group(1).startsWith("static ")) {
                functions.append(block.group(1));
                continue;
            }
            for (String line : block.group(1).split("\n")) {
                run.append(line.startsWith("x.") ? asked(line) : line).append('\n');
            }
        }
        return "public final class ReadmeRun {\n" + functions
            + "public static java.util.List<String> run() {\n"
            + "java.util.List<String> got = new java.util.ArrayList<>();\n" + run + "return got;\n}\n}\n";
    }

    private static String asked(String line) {
        Matcher shown = SHOWN.matcher(line);
        if (!shown.matches()) {
            CHECK.same("a call and what it answers", line, "x.call(..); // answer: why");
            return "";
        }
        String call = "x." + shown.group(1) + "(" + shown.group(2) + ")";
        boolean isVoid = shown.group(1).equals("wed") || shown.group(1).equals("image");
        CALLS.add(call);
        DUE.add(shown.group(3) == null ? "nothing" : shown.group(3).equals("NONE") ? "-1" : shown.group(3));
        return "try { " + (isVoid ? call + "; got.add(\"nothing\");" : "got.add(String.valueOf(" + call + "));")
            + " } catch (RuntimeException e) { got.add(e.getClass().getSimpleName()); }";
    }

    private static Class<?> compiled(String program) throws Exception {
        Path folder = Files.createTempDirectory("readme");
        Path source = folder.resolve("ReadmeRun.java");
        Files.writeString(source, program);
        int code = ToolProvider.getSystemJavaCompiler().run(null, null, null,
            "-cp", System.getProperty("java.class.path"), "-d", folder.toString(), source.toString());
        CHECK.is("javac of README.md's calls", code, 0);
        if (code != 0) {
            System.out.println(program);
            CHECK.close();
        }
        try (URLClassLoader loader = new URLClassLoader(new URL[] {folder.toUri().toURL()})) {
            return loader.loadClass("ReadmeRun");
        } finally {
            for (String name : List.of("ReadmeRun.java", "ReadmeRun.class", ".")) {
                Files.deleteIfExists(folder.resolve(name).normalize());
            }
        }
    }

    private static List<String> answers(Class<?> run) throws Exception {
        List<String> got = new ArrayList<>();
        for (Object answer : (List<?>) run.getMethod("run").invoke(null)) {
            got.add((String) answer);
        }
        return got;
    }

    private static void everyCallIsShown() {
        for (Method method : SharedCup.class.getMethods()) {
            if (method.getDeclaringClass() == SharedCup.class) {
                String begin = "x." + method.getName() + "(";
                CHECK.yes("README.md shows " + method.getName(), CALLS.stream().anyMatch(call -> call.startsWith(begin)));
            }
        }
    }

    /** What README.md names as a path of the project is there. */
    private static void filesAreThere(String readme) {
        Matcher path = Pattern.compile("`((?:\\.\\./|\\.ci/|src/)[\\w./]*)`").matcher(readme);
        int many = 0;
        while (path.find()) {
            many++;
            CHECK.yes("there is " + path.group(1), Files.exists(Path.of(path.group(1))));
        }
        CHECK.yes("files are named", many > 3);
    }
}
