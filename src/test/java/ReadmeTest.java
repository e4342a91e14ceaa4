import java.io.IOException;
import java.lang.reflect.Method;
import java.lang.reflect.Modifier;
import java.nio.charset.StandardCharsets;
import java.nio.file.Files;
import java.nio.file.Path;
import java.util.ArrayList;
import java.util.Comparator;
import java.util.List;
import java.util.regex.Matcher;
import java.util.regex.Pattern;
import java.util.stream.Stream;

/**
 * Does what README.md says, in a copy of the sources: saves its example, and gives its commands but for
 * .ci/run, which runs this test. Every method of the class must be named there.
 */
public final class ReadmeTest {
    private static final Pattern BLOCK = Pattern.compile("(?ms)^```(java|sh|text)\n(.*?)^```$");
    private static final Check check = new Check();

    private record Block(String kind, String text) { }

    public static void main(String[] args) throws Exception {
        String page = Files.readString(Path.of("README.md"));
        check.about("README.md");
        methods(page);
        Path folder = Files.createTempDirectory("readme");
        try {
            copy(Path.of("src"), folder.resolve("src"));
            follow(blocks(page), folder);
        } finally {
            delete(folder);
        }
        check.end();
    }

    private static void methods(String page) {
        for (Method method : StackStates.class.getDeclaredMethods()) {
            if (!Modifier.isPublic(method.getModifiers())) continue;
            check.isTrue("names " + method.getName(), page.contains("`" + method.getName() + "`"));
        }
    }

    private static List<Block> blocks(String page) {
        List<Block> result = new ArrayList<>();
        Matcher matcher = BLOCK.matcher(page);
        while (matcher.find()) result.add(new Block(matcher.group(1), matcher.group(2)));
        return result;
    }

    private static void follow(List<Block> blocks, Path folder) throws Exception {
        String printed = "";
        int commands = 0;
        int prints = 0;
        for (Block block : blocks) {
            switch (block.kind()) {
                case "java" -> Files.writeString(folder.resolve("Example.java"), block.text());
                case "sh" -> {
                    if (block.text().equals(".ci/run\n")) {
                        check.isTrue(".ci/run can be executed", Files.isExecutable(Path.of(".ci/run")));
                        continue;
                    }
                    printed = give(block.text(), folder);
                    commands++;
                }
                default -> {
                    check.isTrue("what is printed is\n" + printed, printed.equals(block.text()));
                    prints++;
                }
            }
        }
        check.due("blocks of commands", commands, 2);
        check.due("blocks of what is printed", prints, 1);
    }

    private static String give(String commands, Path folder) throws Exception {
        Process process = new ProcessBuilder("sh", "-e", "-c", commands)
            .directory(folder.toFile()).redirectError(ProcessBuilder.Redirect.INHERIT).start();
        String printed = new String(process.getInputStream().readAllBytes(), StandardCharsets.UTF_8);
        check.due("exit code of\n" + commands + printed, process.waitFor(), 0);
        return printed;
    }

    private static void copy(Path from, Path to) throws IOException {
        try (Stream<Path> paths = Files.walk(from)) {
            for (Path path : paths.toList()) Files.copy(path, to.resolve(from.relativize(path)));
        }
    }

    private static void delete(Path folder) throws IOException {
        try (Stream<Path> paths = Files.walk(folder)) {
            for (Path path : paths.sorted(Comparator.reverseOrder()).toList()) Files.delete(path);
        }
    }
}
