import java.io.File;
import java.io.IOException;
import java.nio.file.Files;
import java.nio.file.Path;
import java.util.ArrayList;
import java.util.Comparator;
import java.util.List;
import java.util.regex.Matcher;
import java.util.regex.Pattern;
import java.util.stream.Stream;

/**
 * What README.md says is so: its example compiles as it stands there and prints the answers that it tells, its
 * commands run, the files and calls that it names are there. .ci/run alone isn't run here, as it runs this test.
 */
public final class ReadmeTest {
    private static final Pattern PRINTED = Pattern.compile("println\\(.*\\);\\s*// (-?\\d+)\\b");
    private static final String SUITE = ".ci/run";

    private ReadmeTest() {
    }

    public static void main(String[] args) throws Exception {
        String readme = Files.readString(Path.of("README.md"));
        Path room = Files.createTempDirectory("readme");
        try {
            example(blocks(readme, "java"), room);
            commands(blocks(readme, "sh"), room);
            files(readme);
            calls(readme);
        } finally {
            remove(room);
        }
        Due.end();
    }

    private static List<String> blocks(String readme, String kind) {
        List<String> all = new ArrayList<>();
        Matcher block = Pattern.compile("(?s)```" + kind + "\n(.*?)```").matcher(readme);
        while (block.find()) {
            all.add(block.group(1));
        }
        return all;
    }

    private static void example(List<String> blocks, Path room) throws Exception {
        Due.due("examples in README.md", blocks.size(), 1);
        for (String block : blocks) {
            List<String> told = new ArrayList<>();
            Matcher printed = PRINTED.matcher(block);
            while (printed.find()) {
                told.add(printed.group(1));
            }
            Due.holds("each line that prints tells its answer: " + told.size(),
                told.size() > 0 && told.size() == block.split("println\\(", -1).length - 1);
            Files.writeString(room.resolve("Example.java"), block);
            String sources = "'" + Path.of("src/main/java/BetweenStops.java").toAbsolutePath() + "' Example.java";
            String got = run("javac -Xlint:all -Werror -d example " + sources + " && java -cp example Example", room, room);
            Due.holds("the example prints " + got.lines().toList() + ", README.md tells " + told, got.lines().toList().equals(told));
        }
    }

    private static void commands(List<String> blocks, Path room) throws Exception {
        boolean isSuite = false;
        for (String block : blocks) {
            if (block.strip().equals(SUITE)) {
                isSuite = true;
                continue;
            }
            Due.holds("does not run all tests again: " + block, !block.contains(SUITE));
            run(block, Path.of("."), room);
        }
        Due.holds("README.md tells how to run all tests", isSuite);
        Due.holds("and that command can be run", new File(SUITE).canExecute());
        Due.holds("README.md tells how to run one test", blocks.size() > 1);
    }

    /** What the commands print. */
    private static String run(String commands, Path where, Path room) throws Exception {
        ProcessBuilder builder = new ProcessBuilder("bash", "-e", "-c", commands).directory(where.toFile()).redirectErrorStream(true);
        builder.environment().put("TMPDIR", room.toString());
        Process process = builder.start();
        process.getOutputStream().close();
        String said = new String(process.getInputStream().readAllBytes());
        Due.due("exit code of\n" + commands + said, process.waitFor(), 0);
        return said;
    }

    private static void files(String readme) {
        Matcher file = Pattern.compile("`((?:\\.\\./shared|src|\\.ci)/[\\w./]+|\\w+\\.md)`").matcher(readme);
        int named = 0;
        while (file.find()) {
            named++;
            Due.holds("README.md names a file that is there: " + file.group(1), new File(file.group(1)).exists());
        }
        Due.holds("README.md names files", named > 0);
        Matcher test = Pattern.compile("`(\\w+(?:Test|Model))`").matcher(readme);
        while (test.find()) {
            Due.holds("README.md names a test that is there: " + test.group(1),
                new File("src/test/java/" + test.group(1) + ".java").exists());
        }
    }

    /** README.md tells of each call, by the name and the numbers that the document gives it. */
    private static void calls(String readme) throws IOException {
        String document = Files.readString(Path.of("../shared/DOC.md"));
        Matcher call = Pattern.compile("`(?:int|long) (\\w+)\\(([^)]*)\\)`").matcher(document);
        int named = 0;
        while (call.find()) {
            named++;
            String bare = "`" + call.group(1) + "(" + call.group(2).replaceAll("\\b(int|long) ", "") + ")`";
            Due.holds("README.md tells of " + bare, readme.contains(bare));
        }
        Due.due("calls of the document", named, 44);
    }

    private static void remove(Path room) throws IOException {
        try (Stream<Path> all = Files.walk(room)) {
            for (Path path : all.sorted(Comparator.reverseOrder()).toList()) {
                Files.delete(path);
            }
        }
    }
}
