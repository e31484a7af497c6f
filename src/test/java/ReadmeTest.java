import java.io.File;
import java.io.IOException;
import java.lang.reflect.Method;
import java.net.URL;
import java.net.URLClassLoader;
import java.nio.file.Files;
import java.nio.file.Path;
import java.util.ArrayList;
import java.util.List;
import java.util.Set;
import java.util.TreeSet;
import java.util.regex.Matcher;
import java.util.regex.Pattern;

/** README.md: its examples answer as it says there, and it names every call with its refusals, and every test. */
public final class ReadmeTest {
    private static final Check CHECK = new Check("ReadmeTest");
    private static final int CALLS = 44, LEAST_EXAMPLES = 60;
    /** A line of an example that tells its answer: [int name =] object.call(..); // answer [: why]. */
    private static final Pattern TOLD = Pattern.compile("(?:int (\\w+) = )?(\\w+\\.\\w+\\(.*\\)); *// (-?\\d+)(:.*)?");
    private static final Pattern REFUSAL = Pattern.compile("\\bBAD\\b|\\bFULL\\b|\\bNONE\\b|-9\\b|-1[1-5]\\b|-100\\b");

    public static void main(String[] args) throws Exception {
        String readme = Files.readString(Path.of("README.md"));
        examples(blocks(readme, "java"));
        calls(readme, Files.readString(Path.of(System.getProperty("doc.text", "../shared/DOC.md"))));
        tests(readme);
        commands(blocks(readme, "sh"));
        CHECK.end();
    }

    private static List<String> blocks(String readme, String language) {
        List<String> blocks = new ArrayList<>();
        Matcher m = Pattern.compile("(?s)```" + language + "\n(.*?)```").matcher(readme);
        while (m.find()) {
            blocks.add(m.group(1));
        }
        return blocks;
    }

    /** The examples are compiled as they stand, but that each answer that is told is written down. */
    private static void examples(List<String> blocks) throws Exception {
        List<String> told = new ArrayList<>();
        List<Long> due = new ArrayList<>();
        StringBuilder source = new StringBuilder("public final class ReadmeExamples {\n");
        source.append("public static void run(long[] got) {\n");
        for (String block : blocks) {
            source.append("{\n");
            for (String line : block.split("\n")) {
                Matcher m = TOLD.matcher(line.trim());
                if (m.matches()) {
                    String place = "got[" + due.size() + "]";
                    source.append(place).append(" = ").append(m.group(2)).append(";\n");
                    source.append(m.group(1) == null ? "" : "int " + m.group(1) + " = (int) " + place + ";\n");
                    told.add(m.group(2));
                    due.add(Long.parseLong(m.group(3)));
                } else {
                    CHECK.holds("an answer is told so that it can be read: " + line, !line.contains("//"));
                    source.append(line).append("\n");
                }
            }
            source.append("}\n");
        }
        source.append("}\n}\n");
        CHECK.holds("there are examples: " + due.size(), due.size() >= LEAST_EXAMPLES);
        long[] got = answers(source.toString(), due.size());
        for (int i = 0; i < due.size(); i++) {
            CHECK.due(told.get(i), got[i], due.get(i));
        }
    }

    private static long[] answers(String source, int count) throws Exception {
        long[] got = new long[count];
        Path directory = Files.createTempDirectory("readme");
        Path file = directory.resolve("ReadmeExamples.java");
        Files.writeString(file, source);
        int code = new ProcessBuilder("javac", "-d", directory.toString(),
            "-cp", System.getProperty("java.class.path"), file.toString()).inheritIO().start().waitFor();
        CHECK.due("the examples compile", code, 0);
        if (code == 0) {
            try (URLClassLoader loader = new URLClassLoader(new URL[] {directory.toUri().toURL()})) {
                loader.loadClass("ReadmeExamples").getMethod("run", long[].class).invoke(null, (Object) got);
            }
        }
        Files.deleteIfExists(directory.resolve("ReadmeExamples.class"));
        Files.delete(file);
        Files.delete(directory);
        return got;
    }

    /** Each call stands in the table with the signature and the refusals, in their order, that the document tells. */
    private static void calls(String readme, String doc) {
        Matcher m = Pattern.compile("\n`((?:int|long) (\\w+)\\(.*?\\))`: (.*)").matcher(doc);
        int calls = 0;
        while (m.find()) {
            calls++;
            String row = rowOf(readme, "`" + m.group(1) + "`");
            String[] cells = row.split("\\|");
            CHECK.due("the row of " + m.group(2) + " has what the call takes, answers, refuses", cells.length, 4);
            // of act() the document tells its refusal under Terms alone
            List<String> due = m.group(2).equals("act") ? List.of("-15") : refusals(m.group(3));
            List<String> got = refusals(cells.length == 4 ? cells[3] : "");
            CHECK.holds("the refusals of " + m.group(2) + " are " + due + ", not " + got, got.equals(due));
        }
        CHECK.due("how many calls the document has", calls, CALLS);
        for (Method call : WeatherDisguise.class.getDeclaredMethods()) {
            CHECK.holds(call.getName() + " is named once at most", rows(readme, " " + call.getName() + "(") <= 1);
        }
    }

    private static String rowOf(String readme, String first) {
        for (String line : readme.split("\n")) {
            if (line.startsWith("| " + first + " |")) {
                return line.substring(2);
            }
        }
        CHECK.holds("there is a row for " + first, false);
        return "";
    }

    private static int rows(String readme, String part) {
        int rows = 0;
        for (String line : readme.split("\n")) {
            rows += line.startsWith("| `") && line.contains(part) ? 1 : 0;
        }
        return rows;
    }

    private static List<String> refusals(String text) {
        List<String> refusals = new ArrayList<>();
        Matcher m = REFUSAL.matcher(text);
        while (m.find()) {
            if (!refusals.contains(m.group())) {
                refusals.add(m.group());
            }
        }
        return refusals;
    }

    /** The table of tests names those that there are. */
    private static void tests(String readme) {
        Set<String> named = new TreeSet<>();
        Matcher m = Pattern.compile("(?m)^\\| (\\w+Test) \\|").matcher(readme);
        while (m.find()) {
            named.add(m.group(1));
        }
        Set<String> there = new TreeSet<>();
        for (String file : filesOf("src/test/java")) {
            String name = file.replace(".java", "");
            if (name.endsWith("Test")) {
                there.add(name);
            } else {
                CHECK.holds(file + " is named", readme.contains("`" + name + "`"));
            }
        }
        CHECK.holds("the tests " + there + " are named, not " + named, named.equals(there));
    }

    private static String[] filesOf(String directory) {
        String[] files = new File(directory).list();
        CHECK.holds("there is " + directory, files != null);
        return files == null ? new String[0] : files;
    }

    /** What the commands name is there. */
    private static void commands(List<String> blocks) throws IOException {
        CHECK.holds("there are commands", blocks.size() >= 3);
        for (String block : blocks) {
            Matcher m = Pattern.compile("\\b(\\w+Test|WeatherDisguiseRuns)\\b").matcher(block);
            while (m.find()) {
                CHECK.holds(m.group() + " is there", Files.exists(Path.of("src/test/java", m.group() + ".java"))
                    || Files.exists(Path.of("../shared/tests", m.group() + ".java")));
            }
            CHECK.holds("a command is one line: " + block, block.indexOf('\n') == block.length() - 1);
        }
        CHECK.holds("there is .ci/run", Files.isExecutable(Path.of(".ci/run")));
    }
}
