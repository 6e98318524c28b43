import java.io.IOException;
import java.lang.reflect.Method;
import java.lang.reflect.Modifier;
import java.nio.file.Files;
import java.nio.file.Path;
import java.util.ArrayList;
import java.util.Collections;
import java.util.List;
import java.util.regex.Matcher;
import java.util.regex.Pattern;
import java.util.stream.Stream;

/** README.md's words hold as they stand: its example's answers, its commands, its calls and files. */
public final class ReadmeTest {
    private static final Answers ANSWERS = new Answers();
    private static final Path CLASS = Path.of("src/main/java/FavoursGoOff.java"), TESTS = Path.of("src/test/java");
    private static final String USE = "Use", RUN = "Tests";

    private static String readme = "";

    /** What a command printed and the code with which it ended. */
    private record Outcome(int code, String text) {
        boolean tells(String words) {
            return text.contains(words);
        }
    }

    public static void main(String[] args) throws IOException, InterruptedException {
        readme = Files.readString(Path.of("README.md"));
        Path scratch = Files.createTempDirectory("readme");
        try {
            example(Files.createDirectory(scratch.resolve("example")));
            oneTestAlone(Files.createDirectory(scratch.resolve("alone")));
            allTests(Files.createDirectory(scratch.resolve("all")));
        } finally {
            delete(scratch);
        }
        callsAreAllNamed();
        filesAreThere();
        ANSWERS.end("ReadmeTest");
    }

    private static void example(Path folder) throws IOException, InterruptedException {
        String program = blocks(USE, "java").get(0);
        copy(CLASS, folder);
        Files.writeString(folder.resolve("Example.java"), program);
        Outcome run = bash(folder, blocks(USE, "sh").get(0));
        holds("the example compiles and runs: " + run.text, run.code == 0);
        String[] said = run.text.split("\n");
        int at = 0;
        for (String line : program.split("\n")) {
            Matcher call = Pattern.compile("^\\s*say\\((.*)\\);(?: // (-?\\d+)(?:: .*)?)?$").matcher(line);
            if (call.find()) {
                holds("a call's answer is told in README.md: " + line, call.group(2) != null);
                holds("a line for " + line, at < said.length && said[at].matches("-?\\d+"));
                if (call.group(2) != null && at < said.length && said[at].matches("-?\\d+")) {
                    ANSWERS.due("README.md: " + call.group(1), Long.parseLong(said[at]), Long.parseLong(call.group(2)));
                }
                at++;
            }
        }
        ANSWERS.due("the example's answers", said.length, at);
    }

    private static void oneTestAlone(Path folder) throws IOException, InterruptedException {
        copy(CLASS, folder);
        try (Stream<Path> files = Files.list(TESTS)) {
            for (Path file : files.toList()) {
                copy(file, folder);
            }
        }
        String commands = blocks(RUN, "sh").get(1);
        String name = commands.strip().replaceAll("(?s).* ", "");
        Outcome run = bash(folder, commands);
        holds("one test alone: " + run.text, run.code == 0 && run.text.matches(name + ": \\d+ answers.*, 0 wrong\n"));
    }

    /** The command that runs the tests, on a small project with tests that pass and tests that fail. */
    private static void allTests(Path folder) throws IOException, InterruptedException {
        Path project = Files.createDirectory(folder.resolve("project"));
        Path own = Files.createDirectories(project.resolve(TESTS));
        Path shared = Files.createDirectories(folder.resolve("shared/tests"));
        copy(Path.of(".ci/run"), project);
        put(project.resolve(CLASS), "public final class FavoursGoOff { }");
        put(own.resolve("OwnTest.java"), program("OwnTest", 0));
        Outcome none = tests(project);
        holds("it fails without a shared test: " + none.text, none.code != 0);

        put(shared.resolve("SharedRuns.java"), program("SharedRuns", 0));
        Outcome good = tests(project);
        holds("it passes: " + good.text, good.code == 0 && good.tells("2 passed, 0 failed"));
        holds("it runs both: " + good.text, good.tells("OwnTest ran\n") && good.tells("SharedRuns ran\n"));

        failsWith(project, own.resolve("WrongTest.java"), program("WrongTest", 1), "FAILED: WrongTest");
        failsWith(project, own.resolve("TornTest.java"), "public final class TornTest {", "FAILED");
        failsWith(project, shared.resolve("WrongRuns.java"), program("WrongRuns", 1), "FAILED: WrongRuns");
        failsWith(project, shared.resolve("TornRuns.java"), "public final class TornRuns {", "FAILED: TornRuns");
        failsWith(project, shared.resolve("more/FarRuns.java"), program("FarRuns", 1), "FAILED: FarRuns");
        Outcome again = tests(project);
        holds("it passes again: " + again.text, again.code == 0);
    }

    private static void failsWith(Path project, Path file, String text, String words)
        throws IOException, InterruptedException {
        put(file, text);
        Outcome run = tests(project);
        holds("it fails with " + file + ": " + run.text, run.code != 0 && run.tells(words));
        Files.delete(file);
    }

    private static Outcome tests(Path project) throws IOException, InterruptedException {
        return bash(project, blocks(RUN, "sh").get(0));
    }

    private static String program(String name, int code) {
        return "public final class " + name + " { public static void main(String[] args) { new FavoursGoOff();"
            + " System.out.println(\"" + name + " ran\"); System.exit(" + code + "); } }";
    }

    private static void callsAreAllNamed() {
        List<String> told = new ArrayList<>();
        for (String item : section(USE).substring(section(USE).indexOf("\n- ")).split("\n\n")[0].split("`")) {
            if (item.matches("\\w+")) {
                told.add(item);
            }
        }
        List<String> have = new ArrayList<>();
        for (Method m : FavoursGoOff.class.getDeclaredMethods()) {
            if (Modifier.isPublic(m.getModifiers())) {
                have.add(m.getName());
            }
        }
        Collections.sort(told);
        Collections.sort(have);
        holds("the calls " + told + " are " + have, told.equals(have));
    }

    private static void filesAreThere() {
        Matcher named = Pattern.compile("`([\\w./]+/[\\w./*]+|\\w+\\.md)`").matcher(readme);
        int found = 0;
        while (named.find()) {
            found++;
            String file = named.group(1).replaceFirst("/[^/]*\\*.*", "");
            holds("there is " + file, Files.exists(Path.of(file)));
        }
        holds("files are named", found > 0);
    }

    private static String section(String name) {
        String from = readme.substring(readme.indexOf("\n## " + name + "\n") + 1);
        int end = from.indexOf("\n## ");
        return end < 0 ? from : from.substring(0, end);
    }

    private static List<String> blocks(String section, String language) {
        List<String> all = new ArrayList<>();
        Matcher m = Pattern.compile("```" + language + "\n(.*?)```", Pattern.DOTALL).matcher(section(section));
        while (m.find()) {
            all.add(m.group(1));
        }
        return all;
    }

    private static Outcome bash(Path folder, String commands) throws IOException, InterruptedException {
        Process process = new ProcessBuilder("bash", "-e", "-c", commands)
            .directory(folder.toFile()).redirectErrorStream(true).start();
        String text = new String(process.getInputStream().readAllBytes());
        return new Outcome(process.waitFor(), text);
    }

    private static void copy(Path file, Path folder) throws IOException {
        Path to = folder.resolve(file.toString());
        Files.createDirectories(to.getParent());
        Files.copy(file, to);
    }

    private static void put(Path file, String text) throws IOException {
        Files.createDirectories(file.getParent());
        Files.writeString(file, text);
    }

    private static void delete(Path folder) throws IOException {
        List<Path> all;
        try (Stream<Path> files = Files.walk(folder)) {
            all = new ArrayList<>(files.toList());
        }
        Collections.reverse(all);
        for (Path file : all) {
            Files.delete(file);
        }
    }

    private static void holds(String what, boolean isSo) {
        ANSWERS.due(what, isSo ? 1 : 0, 1);
    }
}
