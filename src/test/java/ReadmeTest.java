import java.io.IOException;
import java.lang.reflect.Constructor;
import java.lang.reflect.Field;
import java.lang.reflect.Method;
import java.lang.reflect.Modifier;
import java.nio.charset.StandardCharsets;
import java.nio.file.Files;
import java.nio.file.Path;
import java.util.ArrayList;
import java.util.List;
import java.util.Map;
import java.util.Set;
import java.util.TreeMap;
import java.util.TreeSet;
import java.util.concurrent.TimeUnit;
import java.util.function.IntUnaryOperator;
import java.util.regex.Matcher;
import java.util.regex.Pattern;
import java.util.stream.Collectors;
import java.util.stream.Stream;

/** README.md is held against the class: the calls that it shows are made, its lists are whole. */
public final class ReadmeTest {
    private static final Path README = Path.of("README.md");

    // Far above what the few calls need: if one never ends, this test must.
    private static final int MOST_SECONDS = 120;

    private static final Pattern SHOWN =
            Pattern.compile("\\s*(?:int (\\w+) = )?([a-z]\\w*\\.\\w+\\(.*\\));\\s*// answers (-?\\d+|[A-Z_]+)(:.*)?");
    private static final Pattern BARE_CALL = Pattern.compile("\\s*[a-z]\\w*\\.\\w+\\(.*");
    private static final Pattern ROW_OF_CALL = Pattern.compile("\\| `(?:new )?(\\w+)\\((.*?)\\)` \\|.*\\|(.*)\\|");
    private static final Pattern ROW_OF_CONSTANT = Pattern.compile("\\| `(\\w+)` \\| (-?\\d+) \\| .+ \\|");

    private static final Check check = new Check();

    /** A fenced piece of the file; its first line stands at that number, counted from 1. */
    private record Piece(String language, int number, List<String> lines) { }

    public static void main(String[] args) throws IOException, InterruptedException, IllegalAccessException {
        List<String> readme = Files.readAllLines(README, StandardCharsets.UTF_8);
        check.sentence("the calls that README.md shows answer as it says");
        shownCalls(pieces(readme));
        check.sentence("README.md tells each call");
        tableOfCalls(section(readme, "## The calls"));
        check.sentence("README.md tells each constant");
        tableOfConstants(section(readme, "## The constants"));
        check.sentence("README.md says how to run the tests");
        listOfTests(section(readme, "## Tests"));
        check.end();
    }

    private static List<Piece> pieces(List<String> readme) {
        List<Piece> found = new ArrayList<>();
        Piece open = null;
        for (int i = 0; i < readme.size(); i++) {
            String line = readme.get(i);
            if (open == null && line.startsWith("```")) {
                open = new Piece(line.substring(3).trim(), i + 2, new ArrayList<>());
            } else if (open != null && line.equals("```")) {
                found.add(open);
                open = null;
            } else if (open != null) {
                open.lines.add(line);
            }
        }
        check.isTrue("every piece of README.md is closed", open == null);
        return found;
    }

    private static List<String> section(List<String> readme, String heading) {
        int first = readme.indexOf(heading);
        check.isTrue("README.md has " + heading, first >= 0);
        int past = first + 1;
        while (past < readme.size() && !readme.get(past).startsWith("## ")) {
            past++;
        }
        return first < 0 ? List.of() : readme.subList(first, past);
    }

    private static void shownCalls(List<Piece> pieces) throws IOException, InterruptedException {
        List<String> source = new ArrayList<>(List.of("public final class ReadmeProgram {", "public static void main(String[] args) {"));
        Map<Integer, Integer> answersDue = new TreeMap<>();
        Map<Integer, List<String>> printsDue = new TreeMap<>();
        int last = 0;
        for (Piece piece : pieces) {
            if (piece.language.equals("java")) {
                last = piece.number;
                printsDue.put(last, List.of());
                source.add("System.out.println(\"piece " + last + "\");");
                addPiece(piece, source, answersDue);
            } else {
                check.isTrue("line " + piece.number + ": a piece of text follows its piece of Java",
                        piece.language.equals("text") && last != 0 && printsDue.get(last).isEmpty());
                printsDue.put(last, piece.lines);
            }
        }
        source.addAll(List.of("}", "}"));
        check.isTrue("README.md shows calls with their answers", answersDue.size() > 50);
        compare(run(source), answersDue, printsDue);
    }

    private static void addPiece(Piece piece, List<String> source, Map<Integer, Integer> answersDue) {
        for (int i = 0; i < piece.lines.size(); i++) {
            String line = piece.lines.get(i);
            int number = piece.number + i;
            Matcher shown = SHOWN.matcher(line);
            if (!shown.matches()) {
                // A call whose answer nobody looks at must not pass for a tested one.
                check.isTrue("line " + number + " tells its answer: " + line,
                        !line.contains("//") && !BARE_CALL.matcher(line).matches());
                source.add(line);
                continue;
            }
            answersDue.put(number, number(shown.group(3)));
            if (shown.group(1) != null) {
                source.add(line);
            }
            String value = shown.group(1) != null ? shown.group(1) : shown.group(2);
            source.add("System.out.println(\"answer " + number + " \" + (" + value + "));");
        }
    }

    private static int number(String told) {
        try {
            return Character.isLetter(told.charAt(0))
                    ? EventWindowsX.class.getField(told).getInt(null)
                    : Integer.parseInt(told);
        } catch (ReflectiveOperationException e) {
            check.isTrue("the class has the constant " + told, false);
            return 0;
        }
    }

    private static List<String> run(List<String> source) throws IOException, InterruptedException {
        Path directory = Files.createTempDirectory("readme");
        Path file = directory.resolve("ReadmeProgram.java");
        Path output = directory.resolve("output");
        try {
            Files.write(file, source, StandardCharsets.UTF_8);
            String java = Path.of(System.getProperty("java.home"), "bin", "java").toString();
            Process process = new ProcessBuilder(java, "-Dfile.encoding=UTF-8", "-cp",
                    System.getProperty("java.class.path"), file.toString())
                    .redirectErrorStream(true).redirectOutput(output.toFile()).start();
            boolean ended = process.waitFor(MOST_SECONDS, TimeUnit.SECONDS);
            if (!ended) {
                process.destroyForcibly().waitFor();
            }
            List<String> lines = Files.readAllLines(output, StandardCharsets.UTF_8);
            boolean well = ended && process.exitValue() == 0;
            check.isTrue("the program of README.md compiles, runs and ends: " + (well ? "" : lines), well);
            return lines;
        } finally {
            Files.deleteIfExists(file);
            Files.deleteIfExists(output);
            Files.deleteIfExists(directory);
        }
    }

    private static void compare(List<String> output, Map<Integer, Integer> answersDue, Map<Integer, List<String>> printsDue) {
        Set<Integer> answered = new TreeSet<>();
        Map<Integer, List<String>> printed = new TreeMap<>();
        int piece = 0;
        for (String line : output) {
            String[] words = line.split(" ");
            if (words[0].equals("piece")) {
                piece = Integer.parseInt(words[1]);
                printed.put(piece, new ArrayList<>());
            } else if (words[0].equals("answer")) {
                int number = Integer.parseInt(words[1]);
                answered.add(number);
                check.due("the call in line " + number, Integer.parseInt(words[2]), answersDue.get(number));
            } else {
                printed.computeIfAbsent(piece, p -> new ArrayList<>()).add(line);
            }
        }
        check.isTrue("every call shown was made", answered.equals(answersDue.keySet()));
        check.isTrue("what is printed: " + printed + ", due is " + printsDue, printed.equals(printsDue));
    }

    private static void tableOfCalls(List<String> section) {
        List<String> told = new ArrayList<>();
        for (String line : section) {
            Matcher row = ROW_OF_CALL.matcher(line);
            if (row.matches()) {
                int arguments = row.group(2).isEmpty() ? 0 : row.group(2).split(",").length;
                told.add(row.group(1) + "/" + arguments);
                fieldsOfReader(row.group(1), row.group(3));
            }
        }
        List<String> due = new ArrayList<>();
        for (Constructor<?> c : EventWindowsX.class.getConstructors()) {
            due.add("EventWindowsX/" + c.getParameterCount());
        }
        for (Method m : EventWindowsX.class.getDeclaredMethods()) {
            if (Modifier.isPublic(m.getModifiers())) {
                due.add(m.getName() + "/" + m.getParameterCount());
            }
        }
        check.isTrue("calls told " + sorted(told) + ", due is " + sorted(due), sorted(told).equals(sorted(due)));
    }

    private static List<String> sorted(List<String> words) {
        return words.stream().sorted().collect(Collectors.toList());
    }

    // The object has a record, a session and a pane none of whose fields is -1.
    private static void fieldsOfReader(String name, String answers) {
        EventWindowsX x = new EventWindowsX(10, 50);
        x.addEvent(3, 100, 5);
        x.early();
        Map<String, IntUnaryOperator> readers = Map.of(
                "recordField", field -> x.recordField(0, field),
                "sessionField", field -> x.sessionField(0, field),
                "paneField", field -> x.paneField(0, field));
        if (!readers.containsKey(name)) {
            return;
        }
        Set<Integer> told = new TreeSet<>();
        Matcher field = Pattern.compile("`(F_\\w+)`").matcher(answers);
        while (field.find()) {
            told.add(number(field.group(1)));
        }
        for (int f = -1; f <= 6; f++) {
            check.isTrue(name + " reads field " + f + ": " + told.contains(f),
                    (readers.get(name).applyAsInt(f) != -1) == told.contains(f));
        }
    }

    private static void tableOfConstants(List<String> section) throws IllegalAccessException {
        Map<String, Integer> told = new TreeMap<>();
        for (String line : section) {
            Matcher row = ROW_OF_CONSTANT.matcher(line);
            if (row.matches()) {
                told.put(row.group(1), Integer.parseInt(row.group(2)));
            }
        }
        Map<String, Integer> due = new TreeMap<>();
        for (Field f : EventWindowsX.class.getFields()) {
            due.put(f.getName(), f.getInt(null));
        }
        check.isTrue("constants told " + told + ", due is " + due, told.equals(due));
    }

    private static void listOfTests(List<String> section) throws IOException {
        Set<String> told = new TreeSet<>();
        Matcher name = Pattern.compile("`(\\w+Test)`").matcher(String.join("\n", section));
        while (name.find()) {
            told.add(name.group(1));
        }
        Set<String> due;
        try (Stream<Path> files = Files.list(Path.of("src/test/java"))) {
            due = files.map(f -> f.getFileName().toString()).filter(f -> f.endsWith("Test.java"))
                    .map(f -> f.replace(".java", "")).collect(Collectors.toCollection(TreeSet::new));
        }
        check.isTrue("tests told " + told + ", due is " + due, told.equals(due));
        check.isTrue("the command is told", section.contains("    .ci/run"));
        check.isTrue("the command is there", Files.isExecutable(Path.of(".ci/run")));
    }
}
