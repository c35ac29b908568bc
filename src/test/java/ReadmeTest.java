import java.io.IOException;
import java.lang.reflect.InvocationTargetException;
import java.lang.reflect.Method;
import java.lang.reflect.Modifier;
import java.nio.file.DirectoryStream;
import java.nio.file.Files;
import java.nio.file.Path;
import java.util.ArrayList;
import java.util.List;
import java.util.Map;
import java.util.TreeMap;
import java.util.TreeSet;
import java.util.regex.Matcher;
import java.util.regex.Pattern;

/** README.md: what it shows is what the class answers, and what it tells is what the document says. */
public final class ReadmeTest {
    // Written out, not taken from the class: there they may be wrong.
    private static final Map<String, Integer> CONSTANTS = Map.of(
        "UNKNOWN", -1, "OUTSIDE", -2, "STATE", -3, "FULL", -4, "NO", -5, "NONE", -6, "FAULT", -7);
    private static final Pattern CONSTANT = Pattern.compile("\\b(UNKNOWN|OUTSIDE|STATE|FULL|NO|NONE|FAULT)\\b");
    private static final Pattern SHOWN =
        Pattern.compile("x\\.(\\w+)\\(([^)]*)\\);\\s+// (-?\\d+|[A-Z]+)(\\s.*)?");
    private static final Pattern ROW_OF_CONSTANT = Pattern.compile("\\| `([A-Z]+)` \\| (-?\\d+) \\| (.+) \\|");
    private static final Pattern ROW_OF_CALL = Pattern.compile("\\| `(\\w+)\\(([^)]*)\\)` \\|.*");
    private static final Pattern DOCUMENT_CALL = Pattern.compile("`int (\\w+)\\(([^)]*)\\)`: (.*)");
    private static final int CELLS = 5;
    private static final int MOST_CALLS = 512;
    // The issue asks README.md for these very words.
    private static final String[] MUST_QUOTE = {
        "An object is used for at most 512 calls after it has been made; what later calls answer is free.",
        "NONE -6 is answered only where no refusal fits.",
        "What is refused changes nothing.",
    };

    private final Check check = new Check("ReadmeTest");
    private final List<String> shown = new ArrayList<>();
    private final List<String> told = new ArrayList<>();
    private final String document;
    private final Path tests;

    private ReadmeTest(String readme, String document, Path tests) {
        this.document = document;
        this.tests = tests;
        boolean inExample = false;
        for (String line : readme.split("\n")) {
            if (line.startsWith("```")) {
                inExample = line.equals("```java");
            } else {
                (inExample ? shown : told).add(line);
            }
        }
    }

    private static Map<String, Method> face() {
        Map<String, Method> face = new TreeMap<>();
        for (Method m : PanelPages.class.getDeclaredMethods()) {
            if (Modifier.isPublic(m.getModifiers())) {
                face.put(m.getName(), m);
            }
        }
        return face;
    }

    // ---- the example

    private void example() {
        Map<String, Method> face = face();
        TreeSet<String> notShown = new TreeSet<>(face.keySet());
        PanelPages x = null;
        int calls = 0;
        for (String line : shown) {
            if (line.equals("PanelPages x = new PanelPages();")) {
                x = new PanelPages();
                calls = 0;
                continue;
            }
            Matcher call = SHOWN.matcher(line);
            boolean isCall = x != null && call.matches() && face.containsKey(call.group(1));
            check.holds("neither a new object nor a call with its answer: " + line, isCall || line.isBlank());
            if (isCall) {
                calls++;
                check.holds("behind the 512th call of an object: " + line, calls <= MOST_CALLS);
                notShown.remove(call.group(1));
                answer(x, face.get(call.group(1)), call.group(2), call.group(3), line);
            }
        }
        check.holds("calls that are not shown: " + notShown, notShown.isEmpty());
    }

    private void answer(PanelPages x, Method m, String arguments, String due, String line) {
        String[] texts = arguments.isEmpty() ? new String[0] : arguments.split(", ");
        check.holds("not so many arguments: " + line, texts.length == m.getParameterCount());
        boolean isNumber = due.matches("-?\\d+");
        check.holds("neither a number nor a constant: " + line, isNumber || CONSTANTS.containsKey(due));
        if (texts.length != m.getParameterCount() || !isNumber && !CONSTANTS.containsKey(due)) {
            return;
        }
        Object[] numbers = new Object[texts.length];
        for (int i = 0; i < texts.length; i++) {
            numbers[i] = texts[i].matches("'.'") ? (int) texts[i].charAt(1) : Integer.parseInt(texts[i]);
        }
        try {
            int want = isNumber ? Integer.parseInt(due) : CONSTANTS.get(due);
            check.due(line, (Integer) m.invoke(x, numbers), want);
        } catch (InvocationTargetException e) {
            check.holds(line + " threw " + e.getCause(), false);
        } catch (IllegalAccessException e) {
            check.holds(line + " can not be called", false);
        }
    }

    /** Elsewhere a call with numbers would not be tried, so there is none. */
    private void noCallsElsewhere() {
        Pattern call = Pattern.compile("\\b(" + String.join("|", face().keySet()) + ")\\([-'0-9]");
        for (String line : told) {
            check.holds("a call outside the example: " + line, !call.matcher(line).find());
        }
    }

    // ---- the tables

    private void constants() throws ReflectiveOperationException {
        TreeSet<String> found = new TreeSet<>();
        for (String line : told) {
            Matcher row = ROW_OF_CONSTANT.matcher(line);
            if (row.matches() && CONSTANTS.containsKey(row.group(1))) {
                String name = row.group(1);
                int value = Integer.parseInt(row.group(2));
                check.holds(name + " stands twice", found.add(name));
                check.due(name + " in README.md", value, CONSTANTS.get(name));
                check.due(name + " of the class", PanelPages.class.getField(name).getInt(null), value);
                String begins = name.equals("NONE") ? "not refused: there is none" : "refused: ";
                check.holds(name + " is told wrong: " + row.group(3), row.group(3).startsWith(begins));
            }
        }
        check.holds("the constants of README.md: " + found, found.equals(new TreeSet<>(CONSTANTS.keySet())));
    }

    private Map<String, Matcher> callsOfDocument() {
        Map<String, Matcher> calls = new TreeMap<>();
        for (String line : document.split("\n")) {
            Matcher call = DOCUMENT_CALL.matcher(line);
            if (call.matches()) {
                calls.put(call.group(1), call);
            }
        }
        return calls;
    }

    private static List<String> constantsIn(String text) {
        List<String> names = new ArrayList<>();
        Matcher m = CONSTANT.matcher(text);
        while (m.find()) {
            if (!names.contains(m.group())) {
                names.add(m.group());
            }
        }
        return names;
    }

    private void calls() {
        Map<String, Matcher> due = callsOfDocument();
        check.holds("the document's calls are those of the class: " + due.keySet(), due.keySet().equals(face().keySet()));
        TreeSet<String> found = new TreeSet<>();
        for (String line : told) {
            Matcher row = ROW_OF_CALL.matcher(line);
            if (!row.matches()) {
                continue;
            }
            String name = row.group(1);
            check.holds(name + " stands twice", found.add(name));
            check.holds(name + " is no call of the document", due.containsKey(name));
            if (due.containsKey(name)) {
                check.holds(name + " takes " + due.get(name).group(2), row.group(2).equals(due.get(name).group(2)));
                rowOfCall(name, line.split("\\|", -1), constantsIn(due.get(name).group(3)));
            }
        }
        check.holds("the calls of README.md: " + found, found.equals(due.keySet()));
    }

    /** A row splits into its cells with nothing ahead of the first and behind the last. */
    private void rowOfCall(String name, String[] cells, List<String> due) {
        check.holds("the row of " + name + " has not " + CELLS + " cells", cells.length == CELLS + 2);
        if (cells.length != CELLS + 2) {
            return;
        }
        boolean none = due.remove("NONE");
        check.holds(name + " is told for nothing", !cells[2].isBlank());
        check.holds(name + " answers nothing", !cells[4].isBlank());
        check.holds(name + " answers NONE: due is " + none, constantsIn(cells[4]).contains("NONE") == none);
        check.holds(name + " is refused with " + constantsIn(cells[5]) + ", due is " + due, constantsIn(cells[5]).equals(due));
    }

    // ---- words

    private void quotes() {
        String words = document.replaceAll("\\s+", " ");
        List<String> quoted = new ArrayList<>();
        for (String line : told) {
            if (line.startsWith("> ")) {
                quoted.add(line.substring(2));
                check.holds("not in the document: " + line, words.contains(line.substring(2)));
            }
        }
        for (String must : MUST_QUOTE) {
            check.holds("README.md does not say: " + must, quoted.contains(must));
        }
    }

    private void howToTest() throws IOException {
        String text = String.join("\n", told);
        check.holds("README.md does not tell the command", told.contains(".ci/run"));
        for (String needed : new String[] {"`javac`", "`java`", "`../shared`", "`../shared/tests`"}) {
            check.holds("README.md does not tell of " + needed, text.contains(needed));
        }
        try (DirectoryStream<Path> files = Files.newDirectoryStream(tests, "*Test.java")) {
            for (Path file : files) {
                String name = file.getFileName().toString().replace(".java", "");
                check.holds("README.md does not tell of " + name, text.contains("`" + name + "`"));
            }
        }
    }

    public static void main(String[] args) throws IOException, ReflectiveOperationException {
        String document = Files.readString(Path.of(args.length > 1 ? args[1] : "../shared/DOC.md"));
        ReadmeTest t = new ReadmeTest(Files.readString(Path.of("README.md")), document, Path.of("src/test/java"));
        t.example();
        t.noCallsElsewhere();
        t.constants();
        t.calls();
        t.quotes();
        t.howToTest();
        t.check.end();
    }
}
