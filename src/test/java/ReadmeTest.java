import java.io.IOException;
import java.lang.reflect.Method;
import java.lang.reflect.Modifier;
import java.nio.file.Files;
import java.nio.file.Path;
import java.util.ArrayList;
import java.util.List;
import java.util.regex.Matcher;
import java.util.regex.Pattern;
import java.util.stream.Stream;

/** README.md, followed word for word on a copy of the sources: what is saved, what is run, what that prints. */
public final class ReadmeTest {
    private static final Pattern BLOCK = Pattern.compile("(?s)```([a-z]+)\n(.*?)```\n");
    private static final Pattern SAVED = Pattern.compile("Save this as `([A-Za-z]+\\.java)` beside this README");
    private static final String ALL_TESTS = ".ci/run\n";

    private record Block(String language, String text) {
    }

    public static void main(String[] args) throws IOException, InterruptedException {
        String readme = Files.readString(Path.of("README.md"));
        Path copy = Files.createTempDirectory("readme");
        try {
            copyTree(Path.of("src"), copy.resolve("src"));
            follow(readme, copy);
        } finally {
            deleteTree(copy);
        }
        names(readme);
        numbers(readme);
        Due.end();
    }

    private static List<Block> blocks(String readme) {
        List<Block> blocks = new ArrayList<>();
        Matcher found = BLOCK.matcher(readme);
        while (found.find()) {
            blocks.add(new Block(found.group(1), found.group(2)));
        }
        return blocks;
    }

    private static void follow(String readme, Path copy) throws IOException, InterruptedException {
        Due.sentence("What README.md says of the use of the class and of running its tests holds");
        Matcher saved = SAVED.matcher(readme);
        Due.holds("a file to save the example in", saved.find());
        String printed = "";
        int steps = 0;
        for (Block block : blocks(readme)) {
            switch (block.language()) {
                case "java" -> Files.writeString(copy.resolve(saved.group(1)), block.text());
                case "sh" -> printed = block.text().equals(ALL_TESTS) ? allTests() : ran(block.text(), copy);
                case "text" -> Due.holds("it prints\n" + block.text() + "but it printed\n" + printed,
                    printed.equals(block.text()));
                default -> Due.holds("what is to be done with " + block.language(), false);
            }
            steps++;
        }
        Due.is("blocks: the example, its commands, what it prints, all tests, one test", steps, 5);
    }

    /** That script runs this test, so here it is not run once more. */
    private static String allTests() {
        Due.holds(".ci/run can be run", Files.isExecutable(Path.of(".ci/run")));
        return "";
    }

    private static String ran(String commands, Path where) throws IOException, InterruptedException {
        Process p = new ProcessBuilder("sh", "-e", "-c", commands).directory(where.toFile())
            .redirectErrorStream(true).start();
        p.getOutputStream().close();
        String printed = new String(p.getInputStream().readAllBytes());
        Due.is(commands + "printed " + printed + "exit code", p.waitFor(), 0);
        return printed;
    }

    private static void names(String readme) {
        Due.sentence("README.md says how to use the class");
        for (Method m : DrainedForAThird.class.getDeclaredMethods()) {
            if (Modifier.isPublic(m.getModifiers())) {
                Due.holds("it names " + m.getName(), readme.contains("`" + m.getName() + "`"));
            }
        }
    }

    private static void numbers(String readme) {
        Due.sentence("README.md says how to use the class");
        Due.holds("NONE", readme.contains("`NONE`, " + DrainedForAThird.NONE));
        Due.holds("BAD", readme.contains("`BAD`, " + DrainedForAThird.BAD));
        Due.holds("STATE", readme.contains("`STATE`, " + DrainedForAThird.STATE));
        Due.holds("FULL", readme.contains("`FULL`, " + DrainedForAThird.FULL));
        DrainedForAThird x = new DrainedForAThird();
        Due.is("text() of nothing is place 0", x.text(), -100);
        x.feed(32);
        Due.is("text() of a blank is place 1", x.text(), -101);
    }

    private static void copyTree(Path from, Path to) throws IOException {
        for (Path p : tree(from)) {
            Path target = to.resolve(from.relativize(p).toString());
            if (Files.isDirectory(p)) {
                Files.createDirectories(target);
            } else {
                Files.copy(p, target);
            }
        }
    }

    private static void deleteTree(Path root) throws IOException {
        List<Path> all = tree(root);
        for (int i = all.size() - 1; i >= 0; i--) {
            Files.delete(all.get(i));
        }
    }

    /** Each folder ahead of what is in it. */
    private static List<Path> tree(Path root) throws IOException {
        try (Stream<Path> walked = Files.walk(root)) {
            return walked.toList();
        }
    }
}
