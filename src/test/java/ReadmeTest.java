import java.io.IOException;
import java.nio.charset.StandardCharsets;
import java.nio.file.Files;
import java.nio.file.Path;
import java.util.Comparator;
import java.util.List;
import java.util.Set;
import java.util.TreeSet;
import java.util.regex.Matcher;
import java.util.regex.Pattern;
import java.util.stream.Stream;

/** What README.md says is so when it is tried: its example, its commands, its list of calls and of tests. */
final class ReadmeTest {
    private static final Path README = Path.of("README.md");
    private static final Path CLASS = Path.of("src/main/java/EarthHauls.java");
    private static final Path TESTS = Path.of("src/test/java");

    private ReadmeTest() {
    }

    public static void main(String[] args) throws IOException, InterruptedException {
        String readme = Files.readString(README).replace("\r\n", "\n");
        exampleAsTold(readme);
        testsAsTold(readme);
        everyTestIsListed(readme);
        everyCallIsListed(readme);
        Check.end();
    }

    /** The index-th block of a kind, as it stands between its fences. */
    private static String block(String readme, String kind, int index) {
        Matcher fences = Pattern.compile("```" + kind + "\n(.*?)```\n", Pattern.DOTALL).matcher(readme);
        for (int i = 0; fences.find(); i++) {
            if (i == index) {
                return fences.group(1);
            }
        }
        return "no block " + index + " of " + kind;
    }

    private static void exampleAsTold(String readme) throws IOException, InterruptedException {
        Path place = Files.createTempDirectory("readme");
        try {
            Files.copy(CLASS, place.resolve("EarthHauls.java"));
            Files.writeString(place.resolve("Example.java"), block(readme, "java", 0));
            Check.dueSame("README's example", output(place, block(readme, "sh", 0)), block(readme, "text", 0));
        } finally {
            remove(place);
        }
    }

    private static void testsAsTold(String readme) throws IOException, InterruptedException {
        Check.dueSame("README's command for all tests", block(readme, "sh", 1), ".ci/run\n");
        Check.due(".ci/run can be run", Files.isExecutable(Path.of(".ci/run")) ? 1 : 0, 1);
        Path place = Files.createTempDirectory("readme");
        try {
            copyTree(Path.of("src"), place);
            String answer = output(place, block(readme, "sh", 2));
            Check.dueSame("README's command for one test", answer, "all answers are as due\n");
        } finally {
            remove(place);
        }
    }

    private static void everyTestIsListed(String readme) throws IOException {
        Set<String> listed = new TreeSet<>();
        Matcher items = Pattern.compile("^- `(\\w+)`:", Pattern.MULTILINE).matcher(readme);
        while (items.find()) {
            listed.add(items.group(1));
        }
        Set<String> there = new TreeSet<>();
        try (Stream<Path> files = Files.list(TESTS)) {
            files.map(file -> file.getFileName().toString()).filter(name -> name.endsWith("Test.java"))
                    .forEach(name -> there.add(name.replace(".java", "")));
        }
        Check.dueSame("README's list of tests", listed.toString(), there.toString());
    }

    private static void everyCallIsListed(String readme) {
        String table = String.join("\n", readme.lines().filter(line -> line.startsWith("| `")).toList());
        for (java.lang.reflect.Method m : EarthHauls.class.getMethods()) {
            if (m.getDeclaringClass() == EarthHauls.class) {
                Matcher call = Pattern.compile("`" + m.getName() + "\\(([^)]*)\\)`").matcher(table);
                int parameters = call.find() ? call.group(1).isEmpty() ? 0 : call.group(1).split(",").length : -1;
                Check.due("README's parameters of " + m.getName(), parameters, m.getParameterCount());
            }
        }
    }

    private static String output(Path place, String commands) throws IOException, InterruptedException {
        Process shell = new ProcessBuilder("sh", "-ec", commands).directory(place.toFile())
                .redirectError(ProcessBuilder.Redirect.INHERIT).start();
        String text = new String(shell.getInputStream().readAllBytes(), StandardCharsets.UTF_8);
        int code = shell.waitFor();
        return code == 0 ? text : text + "exit code " + code;
    }

    private static void copyTree(Path tree, Path place) throws IOException {
        for (Path path : walk(tree)) {
            if (Files.isRegularFile(path)) {
                Files.createDirectories(place.resolve(path).getParent());
                Files.copy(path, place.resolve(path));
            }
        }
    }

    private static void remove(Path place) throws IOException {
        List<Path> paths = walk(place);
        paths.sort(Comparator.reverseOrder());
        for (Path path : paths) {
            Files.delete(path);
        }
    }

    private static List<Path> walk(Path tree) throws IOException {
        try (Stream<Path> paths = Files.walk(tree)) {
            return new java.util.ArrayList<>(paths.toList());
        }
    }
}
