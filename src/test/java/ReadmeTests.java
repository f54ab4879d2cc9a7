import java.io.File;
import java.io.IOException;
import java.lang.reflect.Method;
import java.lang.reflect.Modifier;
import java.nio.file.Files;
import java.nio.file.Path;
import java.nio.file.Paths;
import java.util.ArrayList;
import java.util.Arrays;
import java.util.List;
import java.util.Set;
import java.util.TreeSet;
import java.util.regex.Matcher;
import java.util.regex.Pattern;
import javax.tools.ToolProvider;

/** README.md: what it says of an answer is what the class answers, and of a promise what the document says. */
public final class ReadmeTests {
    private static final Path PAGE = Paths.get("README.md");
    private static final String REFUSALS = "UNKNOWN|OUTSIDE|NOT|FULL";
    /** A call on x, and behind // what it answers. */
    private static final Pattern CALL = Pattern.compile(
        "(x\\.(\\w+)\\(.*\\)); +// (-?\\d+|NONE|" + REFUSALS + ")(: .+)?");
    /** Lines of an example that ask for nothing. */
    private static final Pattern PLAIN = Pattern.compile(
        "RoomRings x = new RoomRings\\(\\);|tell\\(x, \".*\"(\\.repeat\\(\\d+\\))?\\);|// .*|");
    private static final String EXAMPLES = "ReadmeExamples";

    private ReadmeTests() {
    }

    public static void main(String[] args) throws Exception {
        List<String> lines = Files.readAllLines(PAGE);
        examples(blocks(lines));
        faults(lines);
        faultNumbers(lines);
        refusals(lines);
        calls(lines);
        classes(lines);
        tests(lines);
        Checks.end();
    }

    // ---- blocks of Java

    private static List<List<String>> blocks(List<String> lines) {
        List<List<String>> all = new ArrayList<>();
        List<String> block = null;
        for (String line : lines) {
            if (line.startsWith("```")) {
                block = line.equals("```java") ? new ArrayList<>() : null;
                if (block != null) {
                    all.add(block);
                }
            } else if (block != null) {
                block.add(line);
            }
        }
        return all;
    }

    private static void examples(List<List<String>> blocks) throws Exception {
        StringBuilder source = new StringBuilder("final class " + EXAMPLES + " {\n");
        List<String> names = new ArrayList<>();
        Set<String> called = new TreeSet<>();
        for (List<String> block : blocks) {
            if (block.get(0).startsWith("static ")) {
                source.append(String.join("\n", block)).append('\n');
            } else {
                names.add("example" + names.size());
                source.append("static void ").append(names.get(names.size() - 1)).append("() {\n");
                for (String line : block) {
                    source.append(compared(line, called)).append('\n');
                }
                source.append("}\n");
            }
        }
        Checks.same("the calls that the examples show", called.toString(), face().toString());
        run(source.append("}\n").toString(), names);
    }

    /** The line as a test: a call is compared with what is told behind it. */
    private static String compared(String line, Set<String> called) {
        Matcher call = CALL.matcher(line);
        if (!call.matches()) {
            Checks.sound("README.md, '" + line + "' tells what is answered", PLAIN.matcher(line).matches());
            return line;
        }
        called.add(call.group(2));
        String due = call.group(3).matches("-?\\d+") ? call.group(3) : "RoomRings." + call.group(3);
        String told = ("README.md, " + call.group(1)).replace("\\", "\\\\").replace("\"", "\\\"");
        return "Checks.due(\"" + told + "\", " + call.group(1) + ", " + due + ");";
    }

    /** Compiled beside the tests, so that the examples may use what these use. */
    private static void run(String source, List<String> names) throws Exception {
        String folder = System.getProperty("java.class.path").split(File.pathSeparator)[0];
        Path file = Paths.get(folder, EXAMPLES + ".java");
        Files.write(file, source.getBytes("UTF-8"));
        int failed = ToolProvider.getSystemJavaCompiler().run(null, null, null, "-encoding", "UTF-8", "-cp", folder, "-d",
            folder, file.toString());
        Checks.due("README.md: the compiler over its examples", failed, 0);
        Checks.sound("README.md has examples", !names.isEmpty());
        if (failed == 0) {
            for (String name : names) {
                Method example = Class.forName(EXAMPLES).getDeclaredMethod(name);
                example.setAccessible(true);
                example.invoke(null);
            }
        }
    }

    private static Set<String> face() {
        Set<String> names = new TreeSet<>();
        for (Method m : RoomRings.class.getDeclaredMethods()) {
            if (Modifier.isPublic(m.getModifiers())) {
                names.add(m.getName());
            }
        }
        return names;
    }

    // ---- tables

    /** The rows of the table that begins with this line, cell by cell. */
    private static List<String[]> table(List<String> lines, String head) {
        List<String[]> rows = new ArrayList<>();
        int at = lines.indexOf(head);
        Checks.sound("README.md has the table '" + head + "'", at >= 0);
        for (int i = at + 2; at >= 0 && i < lines.size() && lines.get(i).startsWith("| "); i++) {
            String row = lines.get(i);
            String[] cells = row.substring(1, row.length() - 1).split("\\|");
            for (int k = 0; k < cells.length; k++) {
                cells[k] = cells[k].trim();
            }
            Checks.due("cells of '" + row + "'", cells.length, head.split("\\|").length - 1);
            rows.add(cells);
        }
        Checks.sound("the table '" + head + "' has rows", !rows.isEmpty());
        return rows;
    }

    private static String unquoted(String cell) {
        return cell.replace("`", "");
    }

    private static void faults(List<String> lines) {
        Set<String> numbers = new TreeSet<>();
        for (String[] row : table(lines, "| text | hostel() | fault() | why |")) {
            String text = unquoted(row[0]);
            Run x = new Run().tell(text);
            Checks.due("README.md, '" + text + "': hostel()", x.hostel(), Integer.parseInt(row[1]));
            Checks.due("README.md, '" + text + "': fault()", x.fault(), Integer.parseInt(row[2]));
            numbers.add(row[1]);
        }
        Checks.same("README.md: the faults that are shown", numbers.toString(), "[-11, -12, -13, -14]");
    }

    private static void faultNumbers(List<String> lines) {
        List<String[]> rows = table(lines, "| number | what |");
        Checks.due("README.md: how many kinds of faults", rows.size(), 4);
        for (int i = 0; i < rows.size(); i++) {
            Checks.same("README.md: the number of a fault", rows.get(i)[0], "" + (i + 1));
        }
    }

    private static void refusals(List<String> lines) throws Exception {
        StringBuilder order = new StringBuilder();
        for (String[] row : table(lines, "| answer | number | why |")) {
            String name = unquoted(row[0]);
            order.append(order.length() == 0 ? "" : "|").append(name);
            Checks.due("README.md: " + name, RoomRings.class.getField(name).getInt(null), Integer.parseInt(row[1]));
        }
        Checks.same("README.md: the refusals in their order", order.toString(), REFUSALS);
    }

    /** Each call has a row, in the document's order, with its parameters and the refusals that its promise names. */
    private static void calls(List<String> lines) throws IOException {
        List<String[]> rows = table(lines, "| call | what it answers | refused with |");
        List<String> faces = callsOfDocument();
        Checks.due("README.md: how many calls", rows.size(), faces.size());
        for (int i = 0; i < Math.min(rows.size(), faces.size()); i++) {
            String call = unquoted(rows.get(i)[0]);
            Checks.same("README.md: the call of promise " + (i + 2), call, faces.get(i));
            String due = named(Document.words("P" + (i + 2)));
            Checks.same("README.md: how " + call + " is refused", named(rows.get(i)[2]), due);
        }
    }

    private static String named(String words) {
        StringBuilder s = new StringBuilder();
        Matcher m = Pattern.compile("\\b(" + REFUSALS + ")\\b").matcher(words);
        while (m.find()) {
            s.append(m.group()).append(' ');
        }
        return s.toString();
    }

    /** The methods of the document's face, as name(parameter, ..). */
    private static List<String> callsOfDocument() throws IOException {
        List<String> calls = new ArrayList<>();
        Pattern method = Pattern.compile(" +public int (\\w+\\(.*\\));");
        for (String line : Files.readAllLines(Paths.get("../shared/DOC.md"))) {
            Matcher m = method.matcher(line);
            if (m.matches()) {
                calls.add(m.group(1).replaceAll("\\b(int|boolean) ", ""));
            }
        }
        return calls;
    }

    private static Set<String> firstCells(List<String> lines, String head) {
        Set<String> names = new TreeSet<>();
        for (String[] row : table(lines, head)) {
            names.addAll(Arrays.asList(unquoted(row[0]).split(", ")));
        }
        return names;
    }

    private static void classes(List<String> lines) {
        Set<String> inside = new TreeSet<>();
        for (Class<?> c : RoomRings.class.getDeclaredClasses()) {
            inside.add(c.getSimpleName());
        }
        Set<String> told = firstCells(lines, "| class inside | what it is for |");
        Checks.same("README.md: the classes inside", told.toString(), inside.toString());
    }

    private static void tests(List<String> lines) {
        String tests = firstCells(lines, "| test | what it looks at |").toString();
        Checks.same("README.md: the tests", tests, javaFiles("src/test/java").toString());
        String edges = firstCells(lines, "| class under `edges` | what of the document |").toString();
        Checks.same("README.md: the edges", edges, javaFiles("src/test/java/edges").toString());
    }

    private static Set<String> javaFiles(String folder) {
        Set<String> names = new TreeSet<>();
        String[] files = new File(folder).list();
        for (String file : files == null ? new String[0] : files) {
            if (file.endsWith(".java")) {
                names.add(file.substring(0, file.length() - 5));
            }
        }
        return names;
    }
}
