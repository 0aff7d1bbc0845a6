import java.io.IOException;
import java.nio.charset.StandardCharsets;
import java.nio.file.Files;
import java.nio.file.Path;
import java.util.ArrayList;
import java.util.Comparator;
import java.util.List;
import java.util.regex.Matcher;
import java.util.regex.Pattern;
import java.util.stream.Stream;

/**
 * Does what README.md says, as it is written there: the commands, the example with what it prints
 * and with the answer behind each call, and the table of refusals. To be run from README.md's
 * folder.
 */
public final class FeedbackFlowReadme {
    private static final Pattern COMMAND = Pattern.compile("^ {4}(javac? .*)$");
    private static final Pattern ANSWERED =
        Pattern.compile("^\\s*(?:int (\\w+) = )?(flow\\.\\w+\\(.*\\));\\s+// (-?\\d+|[A-Z]+)(?:: .*)?$");
    private static final Pattern PRINTED = Pattern.compile("^\\s*System\\.out\\.println\\(flow\\..*\\);$");
    private static final Pattern REFUSAL = Pattern.compile("^\\| `([A-Z]+)` = (-\\d+) \\|.*$");

    private static int wrong = 0;

    private static void check(String what, boolean holds) {
        if (!holds) {
            wrong++;
            System.out.println("README.md: " + what);
        }
    }

    /** The lines of the first block of this language. */
    private static List<String> block(List<String> readme, String language) {
        List<String> lines = new ArrayList<>();
        int begin = readme.indexOf("```" + language);
        check("no block in " + language, begin >= 0);
        for (int i = begin + 1; begin >= 0 && i < readme.size() && !readme.get(i).equals("```"); i++) {
            lines.add(readme.get(i));
        }
        return lines;
    }

    private static List<String> commands(List<String> readme) {
        List<String> found = new ArrayList<>();
        for (String line : readme) {
            Matcher command = COMMAND.matcher(line);
            if (command.matches()) {
                found.add(command.group(1));
            }
        }
        return found;
    }

    /** The example, changed so that it prints each call whose answer is not the written one. */
    private static List<String> withChecks(List<String> example) {
        List<String> lines = new ArrayList<>();
        int answers = 0;
        for (String line : example) {
            Matcher call = ANSWERED.matcher(line);
            if (!call.matches()) {
                check("no answer behind a call: " + line,
                    !line.contains("flow.") || PRINTED.matcher(line).matches());
                lines.add(line);
                continue;
            }
            answers++;
            if (call.group(1) != null) {
                lines.add(line);
            }
            lines.add(checkOf(call));
        }
        check("no call with an answer in the example", answers > 0);
        return lines;
    }

    private static String checkOf(Matcher call) {
        String got = call.group(1) == null ? call.group(2) : call.group(1);
        String answer = call.group(3);
        String want = Character.isLetter(answer.charAt(0)) ? "FeedbackFlow." + answer : answer;
        return "{ int got = " + got + "; if (got != " + want + ") System.out.println(\""
            + call.group(2) + " answered \" + got + \", written is " + answer + "\"); }";
    }

    private static void run(Path folder, String command, List<String> printed)
            throws IOException, InterruptedException {
        Process process = new ProcessBuilder(command.split(" "))
            .directory(folder.toFile()).redirectErrorStream(true).start();
        String output = new String(process.getInputStream().readAllBytes(), StandardCharsets.UTF_8);
        check(command + " failed:\n" + output, process.waitFor() == 0);
        if (command.endsWith(" Example")) {
            check(command + " printed:\n" + output, output.lines().toList().equals(printed));
        }
    }

    private static void checkExample(Path folder, List<String> readme)
            throws IOException, InterruptedException {
        List<String> example = block(readme, "java");
        List<String> printed = block(readme, "text");
        List<String> commands = commands(readme);
        check("no command that runs the example", commands.stream().anyMatch(c -> c.endsWith(" Example")));
        Files.write(folder.resolve("Example.java"), example);
        for (String command : commands) {
            run(folder, command, printed);
        }
        Files.write(folder.resolve("Example.java"), withChecks(example));
        for (String command : commands) {
            if (command.contains("Example")) {
                run(folder, command, printed);
            }
        }
    }

    private static void checkRefusals(List<String> readme) throws ReflectiveOperationException {
        int found = 0;
        for (String line : readme) {
            Matcher row = REFUSAL.matcher(line);
            if (row.matches()) {
                found++;
                int constant = FeedbackFlow.class.getField(row.group(1)).getInt(null);
                check("not the constant: " + line, constant == Integer.parseInt(row.group(2)));
            }
        }
        check("not all six refusals", found == 6);
    }

    private static void checkTests(List<String> readme) throws IOException {
        try (Stream<Path> tests = Files.list(Path.of("src/test/java"))) {
            for (Path test : tests.toList()) {
                String name = test.getFileName().toString().replace(".java", "");
                check("nothing of the test " + name,
                    readme.stream().anyMatch(line -> line.startsWith("- `" + name + "`:")));
            }
        }
    }

    private static void copySources(Path folder) throws IOException {
        try (Stream<Path> files = Files.walk(Path.of("src"))) {
            for (Path file : files.filter(Files::isRegularFile).toList()) {
                Path copy = folder.resolve(file.toString());
                Files.createDirectories(copy.getParent());
                Files.copy(file, copy);
            }
        }
    }

    private static void remove(Path folder) throws IOException {
        try (Stream<Path> files = Files.walk(folder)) {
            for (Path file : files.sorted(Comparator.reverseOrder()).toList()) {
                Files.delete(file);
            }
        }
    }

    public static void main(String[] args) throws Exception {
        List<String> readme = Files.readAllLines(Path.of("README.md"));
        Path folder = Files.createTempDirectory("readme");
        try {
            copySources(folder);
            checkExample(folder, readme);
        } finally {
            remove(folder);
        }
        checkRefusals(readme);
        checkTests(readme);
        System.out.println(wrong == 0 ? "README.md holds" : wrong + " things of README.md do not hold");
        if (wrong != 0) {
            System.exit(1);
        }
    }
}
