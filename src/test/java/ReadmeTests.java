import java.io.IOException;
import java.nio.file.Files;
import java.nio.file.Path;
import java.util.ArrayList;
import java.util.List;
import java.util.concurrent.TimeUnit;
import java.util.regex.Matcher;
import java.util.regex.Pattern;

/** What README.md shows is so: its example prints what it says, and its commands end well. */
public final class ReadmeTests {
    private static final Pattern BLOCK = Pattern.compile("(?ms)^```(\\w+)\n(.*?)^```$");
    private static int wrong = 0;

    private static void check(String what, boolean right) {
        if (!right) {
            wrong++;
            System.out.println("README: " + what);
        }
    }

    private static List<String> blocks(String readme, String kind) {
        List<String> found = new ArrayList<>();
        Matcher m = BLOCK.matcher(readme);
        while (m.find()) {
            if (m.group(1).equals(kind)) {
                found.add(m.group(2));
            }
        }
        return found;
    }

    /** A place like the checkout, so that the commands leave nothing in the checkout itself. */
    private static Path checkout(Path top) throws IOException {
        Path main = Files.createDirectories(top.resolve("main"));
        Files.createSymbolicLink(main.resolve("src"), Path.of("src").toRealPath());
        Files.createSymbolicLink(top.resolve("shared"), Path.of("../shared").toRealPath());
        Files.createDirectories(main.resolve("out"));
        return main;
    }

    private static String run(Path where, String commands) throws Exception {
        Path printed = where.resolve("out/printed");
        Process p = new ProcessBuilder("sh", "-e", "-c", commands).directory(where.toFile())
                .redirectErrorStream(true).redirectOutput(printed.toFile()).start();
        boolean ended = p.waitFor(300, TimeUnit.SECONDS);
        String text = Files.readString(printed);
        if (!ended) {
            p.destroyForcibly();
        }
        check("the commands fail:\n" + commands + text, ended && p.exitValue() == 0);
        return text;
    }

    private static void remove(Path top) throws IOException {
        List<Path> all;
        try (var walk = Files.walk(top)) {
            all = new ArrayList<>(walk.toList());
        }
        for (int i = all.size() - 1; i >= 0; i--) {
            Files.delete(all.get(i));
        }
    }

    private static void namesEachTest(String readme) throws IOException {
        try (var files = Files.list(Path.of("src/test/java"))) {
            for (Path file : files.toList()) {
                check(file + " is not told", readme.contains("`" + file + "`"));
            }
        }
    }

    public static void main(String[] args) throws Exception {
        String readme = Files.readString(Path.of("README.md"));
        List<String> programs = blocks(readme, "java");
        List<String> prints = blocks(readme, "text");
        List<String> commands = blocks(readme, "sh");
        check("one example and what it prints", programs.size() == 1 && prints.size() == 1);
        check("how to run all tests", commands.contains(".ci/run\n") && Files.isExecutable(Path.of(".ci/run")));
        namesEachTest(readme);
        Path top = Files.createTempDirectory("readme");
        try {
            Path main = checkout(top);
            Files.writeString(main.resolve("out/Example.java"), programs.get(0));
            boolean shown = false;
            for (String one : commands) {
                // .ci/run runs this test: it would never end
                if (!one.equals(".ci/run\n")) {
                    String text = run(main, one);
                    if (one.contains("Example")) {
                        shown = true;
                        check("the example prints\n" + text, text.equals(prints.get(0)));
                    }
                }
            }
            check("how to run the example", shown);
        } finally {
            remove(top);
        }
        System.out.println(wrong == 0 ? "the README does what it says" : wrong + " faults of the README");
        if (wrong != 0) {
            System.exit(1);
        }
    }
}
