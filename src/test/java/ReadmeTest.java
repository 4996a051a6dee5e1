import java.io.File;
import java.io.IOException;
import java.nio.file.Files;
import java.nio.file.Path;
import java.util.ArrayList;
import java.util.Comparator;
import java.util.List;
import java.util.Set;
import java.util.TreeSet;
import java.util.regex.Matcher;
import java.util.regex.Pattern;
import java.util.stream.Stream;

/** What README.md says, done as it stands there, in a copy of the project. */
public final class ReadmeTest {
    private static final Path TESTS = Path.of("src/test/java");
    private static int wrong = 0;

    public static void main(String[] args) throws IOException, InterruptedException {
        String readme = Files.readString(Path.of("README.md"));
        namesAllCalls(readme, Files.readString(Path.of("../shared/DOC.md")));
        namesAllTests(readme);
        tellsTheConstants(readme);
        Path place = Files.createTempDirectory("readme");
        try {
            follow(readme, copyOfTheProject(place));
        } finally {
            remove(place);
        }
        System.out.println(wrong == 0 ? "README.md is true" : wrong + " things are not as README.md says");
        if (wrong != 0) System.exit(1);
    }

    private static void check(boolean good, String what) {
        if (good) return;
        wrong++;
        System.out.println(what);
    }

    /** The page's blocks of one sort, in their order. */
    private static List<String> blocks(String readme, String sort) {
        List<String> found = new ArrayList<>();
        Matcher m = Pattern.compile("(?ms)^```" + sort + "\n(.*?)^```$").matcher(readme);
        while (m.find()) found.add(m.group(1));
        return found;
    }

    private static Set<String> all(String pattern, String text) {
        Set<String> found = new TreeSet<>();
        Matcher m = Pattern.compile(pattern).matcher(text);
        while (m.find()) found.add(m.group(1));
        return found;
    }

    private static void namesAllCalls(String readme, String doc) {
        Set<String> due = new TreeSet<>();
        for (String call : all("    public int (\\w+\\([^)]*\\));", doc)) due.add(call.replace("int ", ""));
        StringBuilder table = new StringBuilder();
        for (String row : readme.split("\n")) if (row.startsWith("|")) table.append(row);
        Set<String> named = all("`(\\w+\\([^)]*\\))`", table.toString());
        check(named.equals(due), "README.md names the calls " + named + ", due are " + due);
    }

    private static void namesAllTests(String readme) throws IOException {
        Set<String> due = new TreeSet<>();
        try (Stream<Path> files = Files.list(TESTS)) {
            files.forEach(file -> due.add(file.getFileName().toString().replace(".java", "")));
        }
        Set<String> named = all("`(\\w+Test)`", readme);
        check(named.equals(due), "README.md names the tests " + named + ", there are " + due);
    }

    private static void tellsTheConstants(String readme) {
        String words = readme.replaceAll("\\s+", " ");
        check(words.contains("`UNKNOWN` (" + VerseCustoms.UNKNOWN + "), `OUTSIDE` (" + VerseCustoms.OUTSIDE + "), `NOT` ("
            + VerseCustoms.NOT + ") or `FULL` (" + VerseCustoms.FULL + ")"), "README.md tells other refusals");
        check(words.contains("`NONE` (" + VerseCustoms.NONE + ")"), "README.md tells another NONE");
    }

    private static Path copyOfTheProject(Path place) throws IOException {
        Path project = Files.createDirectory(place.resolve("project"));
        try (Stream<Path> files = Files.walk(Path.of("src"))) {
            for (Path file : (Iterable<Path>) files::iterator) Files.copy(file, project.resolve(file));
        }
        return project;
    }

    /** The commands for all tests are not run from within one of these: they would run it again. */
    private static void follow(String readme, Path project) throws IOException, InterruptedException {
        List<String> commands = blocks(readme, "sh");
        check(commands.size() == 3, "README.md has other commands than for the example, all tests and one");
        if (commands.size() != 3) return;
        Files.writeString(project.resolve("Example.java"), String.join("", blocks(readme, "java")));
        due(project, commands.get(0), String.join("", blocks(readme, "text")));
        check(commands.get(1).equals(".ci/run\n"), "README.md has another command for all tests");
        check(Files.isExecutable(Path.of(".ci/run")), ".ci/run cannot be run");
        due(project, commands.get(2), "all promises hold\n");
    }

    private static void due(Path project, String commands, String due) throws IOException, InterruptedException {
        File printed = Files.createTempFile(project, "printed", "").toFile();
        int code = new ProcessBuilder("sh", "-e", "-c", commands).directory(project.toFile())
            .redirectError(ProcessBuilder.Redirect.INHERIT).redirectOutput(printed).start().waitFor();
        String text = Files.readString(printed.toPath());
        check(code == 0, "exit code " + code + " of " + commands);
        check(text.equals(due), "printed:\n" + text + "where README.md says:\n" + due);
    }

    private static void remove(Path place) throws IOException {
        try (Stream<Path> files = Files.walk(place)) {
            for (Path file : (Iterable<Path>) files.sorted(Comparator.reverseOrder())::iterator) Files.delete(file);
        }
    }
}
