import java.io.File;
import java.io.IOException;
import java.lang.reflect.Method;
import java.lang.reflect.Modifier;
import java.nio.file.Files;
import java.nio.file.Path;
import java.util.ArrayList;
import java.util.Comparator;
import java.util.List;
import java.util.regex.Matcher;
import java.util.regex.Pattern;
import java.util.stream.Stream;

/** What README.md says is so when it is done as written: its program, its commands, its tables. */
public final class ReadmeTest {
    private static final Path ROOT = Path.of(System.getProperty("ribbonpole.root", ".")).toAbsolutePath().normalize();

    /** .ci/run is what runs this test, so it is looked at and not run again. */
    private static final String ALL_TESTS = ".ci/run";

    private ReadmeTest() {
    }

    public static void main(String[] args) throws Exception {
        String readme = Files.readString(ROOT.resolve("README.md"));
        Path folder = Files.createTempDirectory("readme");
        try {
            copy(ROOT.resolve("src"), folder.resolve("src"));
            String program = onlyBlock(readme, "java");
            Files.writeString(folder.resolve("Example.java"), program);
            program(program, commands(readme, folder));
        } finally {
            remove(folder);
        }
        tests(readme);
        calls(readme);
        Check.finish();
    }

    private static List<String> blocks(String readme, String language) {
        List<String> blocks = new ArrayList<>();
        Matcher matcher = Pattern.compile("(?ms)^```" + language + "\\n(.*?)^```$").matcher(readme);
        while (matcher.find()) {
            blocks.add(matcher.group(1));
        }
        return blocks;
    }

    private static String onlyBlock(String readme, String language) {
        List<String> blocks = blocks(readme, language);
        Check.due("blocks of " + language, 1, blocks.size());
        return blocks.isEmpty() ? "" : blocks.get(0);
    }

    /** Runs each block of commands in the folder; what the first one printed, which is the program's. */
    private static List<String> commands(String readme, Path folder) throws Exception {
        List<String> first = null;
        boolean all = false;
        for (String block : blocks(readme, "sh")) {
            if (block.strip().equals(ALL_TESTS)) {
                all = true;
                continue;
            }
            List<String> printed = run(block, folder);
            first = first == null ? printed : first;
        }
        Check.due("a block tells how all tests are run", true, all);
        Check.due(ALL_TESTS + " can be run", true, Files.isExecutable(ROOT.resolve(ALL_TESTS)));
        return first == null ? List.of() : first;
    }

    private static List<String> run(String block, Path folder) throws Exception {
        File output = folder.resolve("output").toFile();
        Process process = new ProcessBuilder("sh", "-e", "-c", block).directory(folder.toFile())
            .redirectErrorStream(true).redirectOutput(output).start();
        process.getOutputStream().close();
        int code = process.waitFor();
        List<String> lines = Files.readAllLines(output.toPath());
        Check.due("code of\n" + block + String.join("\n", lines) + "\n", 0, code);
        return lines;
    }

    /** Each printing line's comment begins with what it prints. */
    private static void program(String program, List<String> printed) {
        int at = 0;
        Matcher matcher = Pattern.compile("println\\((.*)\\); +// ([-\\w]+)").matcher(program);
        while (matcher.find()) {
            String got = at < printed.size() ? printed.get(at) : "nothing";
            String call = "README's " + matcher.group(1) + " printed " + got + ", its comment says " + matcher.group(2);
            Check.due(call, true, got.equals(matcher.group(2)));
            at++;
        }
        Check.due("lines of README's program", at, printed.size());
        Check.due("README's program prints with comments alone", program.split("println").length - 1, at);
    }

    private static void tests(String readme) throws IOException {
        List<String> there = new ArrayList<>();
        try (Stream<Path> files = Files.list(ROOT.resolve("src/test/java"))) {
            files.map(file -> file.getFileName().toString()).filter(name -> name.endsWith("Test.java"))
                .forEach(name -> there.add(name.replace(".java", "")));
        }
        for (String test : there) {
            Check.due("README's table has " + test, true, readme.contains("\n| `" + test + "` |"));
        }
        Matcher matcher = Pattern.compile("(?m)^\\| `(\\w+)` \\|").matcher(readme);
        while (matcher.find()) {
            Check.due("there is a test " + matcher.group(1), true, there.contains(matcher.group(1)));
        }
    }

    private static void calls(String readme) {
        for (Method method : RibbonPole.class.getDeclaredMethods()) {
            if (Modifier.isPublic(method.getModifiers())) {
                Check.due("README names " + method.getName(), true, readme.contains("`" + method.getName() + "`"));
            }
        }
    }

    private static void copy(Path from, Path to) throws IOException {
        try (Stream<Path> files = Files.walk(from)) {
            for (Path file : (Iterable<Path>) files::iterator) {
                Files.copy(file, to.resolve(from.relativize(file)));
            }
        }
    }

    private static void remove(Path folder) throws IOException {
        try (Stream<Path> files = Files.walk(folder)) {
            for (Path file : (Iterable<Path>) files.sorted(Comparator.reverseOrder())::iterator) {
                Files.delete(file);
            }
        }
    }
}
