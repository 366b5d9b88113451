import java.io.ByteArrayOutputStream;
import java.io.PrintStream;
import java.net.URL;
import java.net.URLClassLoader;
import java.nio.charset.StandardCharsets;
import java.nio.file.Files;
import java.nio.file.Path;
import java.util.ArrayList;
import java.util.List;
import java.util.regex.Matcher;
import java.util.regex.Pattern;
import java.util.stream.Stream;
import javax.tools.ToolProvider;

/** Whether README.md says what is so: its program, the commands for one test, the files and tests that it names. */
public final class ReadmeTests {
    private static final Path README = Path.of("README.md");
    private static final Path SOURCE = Path.of("src/main/java/TightRings.java");
    private static final Path TESTS = Path.of("src/test/java");
    private static final Path DOCUMENT = Path.of("../shared/DOC.md");

    private static int checks = 0;
    private static int wrong = 0;

    public static void main(String[] args) throws Exception {
        String page = Files.readString(README);
        Path out = Files.createTempDirectory("readme");
        try {
            programTells(page, out);
            commandsCompile(page, out);
        } finally {
            remove(out);
        }
        namesFiles(page);
        namesTests(page);
        namesPromises(page);
        System.out.println(checks + " checks, " + wrong + " not as due");
        if (wrong != 0) System.exit(1);
    }

    private static void due(boolean holds, String what) {
        checks++;
        if (holds) return;
        wrong++;
        System.out.println(what);
    }

    /** What stands between the fence of that kind and the next one. */
    private static String block(String page, String kind) {
        Matcher fences = Pattern.compile("```" + kind + "\n(.*?)```", Pattern.DOTALL).matcher(page);
        boolean found = fences.find();
        due(found, "no " + kind + " in README.md");
        return found ? fences.group(1) : "";
    }

    private static void programTells(String page, Path out) throws Exception {
        Path program = Files.writeString(out.resolve("Mine.java"), block(page, "java"));
        due(compile("-d", out.toString(), SOURCE.toString(), program.toString()) == 0, "README.md's program does not compile");
        String told = run(out, "Mine");
        due(told.equals(block(page, "text")), "README.md's program tells:\n" + told);
    }

    private static int compile(String... args) {
        return ToolProvider.getSystemJavaCompiler().run(null, System.out, System.out, args);
    }

    /** Its own classes alone, not those of this test. */
    private static String run(Path out, String name) throws Exception {
        ByteArrayOutputStream told = new ByteArrayOutputStream();
        PrintStream ahead = System.out;
        try (URLClassLoader loader = new URLClassLoader(new URL[] {out.toUri().toURL()}, ClassLoader.getPlatformClassLoader())) {
            System.setOut(new PrintStream(told, true, StandardCharsets.UTF_8));
            loader.loadClass(name).getMethod("main", String[].class).invoke(null, (Object) new String[0]);
        } finally {
            System.setOut(ahead);
        }
        return told.toString(StandardCharsets.UTF_8).replace(System.lineSeparator(), "\n");
    }

    private static void commandsCompile(String page, Path out) {
        for (String command : block(page, "sh").split("\n")) {
            String[] words = command.split(" ");
            if (!words[0].equals("javac")) continue;
            List<String> args = new ArrayList<>();
            for (int i = 1; i < words.length; i++) args.add(words[i].equals("out") ? out.toString() : words[i]);
            due(compile(args.toArray(new String[0])) == 0, "README.md's command fails: " + command);
        }
    }

    private static void namesFiles(String page) {
        Matcher paths = Pattern.compile("`((?:\\.\\./shared|src|\\.ci|NOTES)[\\w./]*)`").matcher(page);
        int found = 0;
        while (paths.find()) {
            due(Files.exists(Path.of(paths.group(1))), "README.md names " + paths.group(1) + ", and there is none");
            found++;
        }
        due(found > 5, "README.md names only " + found + " files");
        due(Files.isExecutable(Path.of(".ci/run")), ".ci/run is not executable");
    }

    private static void namesTests(String page) throws Exception {
        try (Stream<Path> tests = Files.list(TESTS)) {
            tests.forEach(test -> {
                String name = test.getFileName().toString().replace(".java", "");
                due(page.contains("`" + name), "README.md does not name " + name);
            });
        }
        Matcher named = Pattern.compile("`(\\w+Tests)").matcher(page);
        while (named.find()) due(Files.exists(TESTS.resolve(named.group(1) + ".java")), "there is no " + named.group(1));
    }

    private static void namesPromises(String page) throws Exception {
        long promises = Files.readAllLines(DOCUMENT).stream().filter(line -> line.startsWith("## Promise ")).count();
        due(page.contains("\"Promise 1\" to \"Promise " + promises + "\""), "README.md does not tell of " + promises + " promises");
    }

    private static void remove(Path folder) throws Exception {
        try (Stream<Path> files = Files.list(folder)) {
            for (Path file : (Iterable<Path>) files::iterator) Files.delete(file);
        }
        Files.delete(folder);
    }
}
