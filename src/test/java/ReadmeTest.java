import java.io.IOException;
import java.lang.reflect.Method;
import java.lang.reflect.Modifier;
import java.net.URL;
import java.net.URLClassLoader;
import java.nio.file.Files;
import java.nio.file.Path;
import java.util.ArrayList;
import java.util.Comparator;
import java.util.List;
import java.util.regex.Matcher;
import java.util.regex.Pattern;
import java.util.stream.Stream;

/** What README.md shows is compiled and run as it stands there, and each answer is the one that it gives. */
public final class ReadmeTest {
    private static final Pattern BLOCK = Pattern.compile("(?ms)^```(\\w+)\n(.*?)^```$");
    private static final Pattern CALL = Pattern.compile("(?:int (\\w+) = )?((?:views\\.|feed\\(views, ).*\\));(?:\\s*// ([-\\w']+)(?:: .*)?)?");
    private static final Pattern ROW = Pattern.compile("(?m)^\\| `([^`]*)` \\| (-?\\d+) \\| (-?\\d+) \\|.*$");
    private static final Pattern ANSWER = Pattern.compile("(?m)^\\| `(NONE|BAD|FULL|STATE)` \\| (-?\\d+) \\|.*$");
    private static final Pattern METHOD = Pattern.compile("(?m)^\\| `(\\w+)\\(([^)]*)\\)` \\|.*$");
    private static final Check CHECK = new Check();

    private static List<String> blocks(String readme, String kind) {
        List<String> found = new ArrayList<>();
        Matcher matcher = BLOCK.matcher(readme);
        while (matcher.find()) {
            if (matcher.group(1).equals(kind)) {
                found.add(matcher.group(2));
            }
        }
        return found;
    }

    private static String quoted(String text) {
        return "\"" + text.replace("\\", "\\\\").replace("\"", "\\\"") + "\"";
    }

    /** A line that calls must give its answer, which is put behind the call. */
    private static String withAnswer(String line) {
        Matcher matcher = CALL.matcher(line);
        if (!matcher.matches()) {
            CHECK.holds("no call goes without its answer: " + line, !line.contains("views.") && !line.contains("feed("));
            return line + "\n";
        }
        CHECK.holds("README.md gives an answer: " + line, matcher.group(3) != null);
        String before = matcher.group(1) == null ? "" : "int " + matcher.group(1) + " = ";
        String value = matcher.group(1) == null ? matcher.group(2) : matcher.group(1);
        String seen = "seen.add(new String[] {" + quoted(matcher.group(2)) + ", number(" + value + "), number(" + matcher.group(3) + ")});";
        return (before.isEmpty() ? "" : before + matcher.group(2) + "; ") + seen + "\n";
    }

    /** Answers are compared as numbers, so that README.md may give a name's sign. */
    private static String program(List<String> blocks) {
        StringBuilder members = new StringBuilder();
        StringBuilder body = new StringBuilder();
        for (String block : blocks) {
            if (block.startsWith("static ")) {
                members.append(block);
            } else {
                block.lines().forEach(line -> body.append(withAnswer(line)));
            }
        }
        return "public final class Example {\n"
            + "static final int NONE = ViewRounds.NONE, BAD = ViewRounds.BAD, FULL = ViewRounds.FULL, STATE = ViewRounds.STATE;\n"
            + "static String number(long answer) { return Long.toString(answer); }\n"
            + "static String number(boolean answer) { return Boolean.toString(answer); }\n"
            + members + "public static void run(java.util.List<String[]> seen) {\n" + body + "}\n}\n";
    }

    private static void runExamples(String readme, Path room) throws Exception {
        List<String> blocks = blocks(readme, "java");
        CHECK.holds("there are examples", blocks.size() > 1);
        Path source = room.resolve("Example.java");
        Files.writeString(source, program(blocks));
        String classes = System.getProperty("java.class.path");
        Process compiler = new ProcessBuilder("javac", "-cp", classes, "-d", room.toString(), source.toString()).inheritIO().start();
        int answer = compiler.waitFor();
        CHECK.same("the examples are compiled", answer, 0);
        if (answer != 0) {
            return;
        }
        List<String[]> seen = new ArrayList<>();
        try (URLClassLoader loader = new URLClassLoader(new URL[] {room.toUri().toURL()})) {
            loader.loadClass("Example").getMethod("run", List.class).invoke(null, seen);
        }
        CHECK.holds("many answers are seen", seen.size() > 60);
        for (String[] one : seen) {
            CHECK.alike(one[0], one[1], one[2]);
        }
    }

    private static void runTexts(String readme) {
        Matcher row = ROW.matcher(readme);
        int rows = 0;
        while (row.find()) {
            ViewRounds x = new ViewRounds();
            CHECK.same("parse of " + row.group(1), Check.parse(x, row.group(1)), Integer.parseInt(row.group(2)));
            CHECK.same("place of " + row.group(1), x.place(), Integer.parseInt(row.group(3)));
            rows++;
        }
        CHECK.same("a text for each fault, and one without", rows, 7);
    }

    private static void readTables(String readme) throws Exception {
        Matcher answer = ANSWER.matcher(readme);
        int answers = 0;
        while (answer.find()) {
            CHECK.same(answer.group(1), ViewRounds.class.getField(answer.group(1)).getInt(null), Integer.parseInt(answer.group(2)));
            answers++;
        }
        CHECK.same("answers that README.md tells", answers, 4);
        List<String> told = new ArrayList<>();
        Matcher method = METHOD.matcher(readme);
        while (method.find()) {
            told.add(method.group(1) + " " + (method.group(2).isEmpty() ? 0 : method.group(2).split(",").length));
        }
        List<String> there = new ArrayList<>();
        for (Method open : ViewRounds.class.getDeclaredMethods()) {
            if (Modifier.isPublic(open.getModifiers())) {
                there.add(open.getName() + " " + open.getParameterCount());
            }
        }
        told.sort(null);
        there.sort(null);
        CHECK.alike("calls that README.md tells", String.join("\n", told), String.join("\n", there));
    }

    /** The commands are run with another directory in place of build, so that a checkout stays clean. */
    private static void runCommands(String readme, Path room) throws Exception {
        List<String> blocks = blocks(readme, "sh");
        CHECK.same("blocks of commands", blocks.size(), 1);
        for (String block : blocks) {
            String commands = "set -e\n" + block.replace(" build ", " " + room.resolve("build") + " ");
            Process process = new ProcessBuilder("sh", "-c", commands).redirectErrorStream(true).start();
            String printed = new String(process.getInputStream().readAllBytes());
            CHECK.same("commands of README.md, which print: " + printed, process.waitFor(), 0);
            CHECK.holds("they run a test: " + printed, printed.contains("answers seen, 0 not as due"));
        }
    }

    private static void remove(Path room) throws IOException {
        try (Stream<Path> all = Files.walk(room)) {
            for (Path path : all.sorted(Comparator.reverseOrder()).toList()) {
                Files.delete(path);
            }
        }
    }

    public static void main(String[] args) throws Exception {
        String readme = Files.readString(Path.of("README.md"));
        Path room = Files.createTempDirectory("readme");
        try {
            runExamples(readme, room);
            runTexts(readme);
            readTables(readme);
            runCommands(readme, room);
        } finally {
            remove(room);
        }
        CHECK.finish();
    }
}
