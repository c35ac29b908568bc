import java.io.IOException;
import java.lang.reflect.InvocationTargetException;
import java.lang.reflect.Method;
import java.nio.file.Files;
import java.nio.file.Path;
import java.util.Arrays;
import java.util.Comparator;
import java.util.TreeSet;
import java.util.function.Consumer;
import java.util.regex.Matcher;
import java.util.regex.Pattern;

/**
 * Tests with the words of the document beside them, one method for each boundary case. A method is
 * named promise<number><what>; it is found by that name, so that none can be forgotten, and its
 * words must stand in the document's section of that promise or in its terms.
 */
abstract class Sentences {
    // Written out, not taken from the class: there they may be wrong.
    static final int UNKNOWN = -1, OUTSIDE = -2, STATE = -3, FULL = -4, NO = -5, NONE = -6, FAULT = -7;
    static final int PLAIN = 0, ALONE = 1, SPREAD = 2, REVEAL = 3;
    static final int LOW = Integer.MIN_VALUE, TOP = Integer.MAX_VALUE;

    private static final Pattern NAME = Pattern.compile("promise(\\d+)[A-Z]\\w*");
    private static final int AT_ONCE = 40;

    /** A call with one argument left open. */
    interface Call {
        int with(Desk desk, int number);
    }

    Desk x = new Desk();
    private final Check check = new Check(getClass().getSimpleName());
    private String test = "";

    final void due(String call, int got, int want) {
        check.due(test + ": " + call, got, want);
    }

    final void same(String what, String got, String want) {
        check.holds(test + ": " + what + "\n  is  " + got + "\n  due " + want, got.equals(want));
    }

    final void holds(String what, boolean isSo) {
        check.holds(test + ": " + what, isSo);
    }

    /** Each of these numbers is refused on an object so made, and nothing of it is changed then. */
    final void refused(int want, String call, Consumer<Desk> made, int[] numbers, Call asked) {
        Desk untouched = new Desk();
        made.accept(untouched);
        String before = untouched.everything();
        for (int from = 0; from < numbers.length; from += AT_ONCE) {
            Desk desk = new Desk();
            made.accept(desk);
            for (int i = from; i < numbers.length && i < from + AT_ONCE; i++) {
                due(call + " with " + numbers[i], asked.with(desk, numbers[i]), want);
            }
            same("what is refused changes nothing: " + call, desk.everything(), before);
        }
    }

    /** One refused call, which changes nothing. */
    final void refusedOnce(int want, String call, Consumer<Desk> made, Call asked) {
        refused(want, call, made, new int[] {0}, asked);
    }

    /** A call that only asks: it has an answer, and nothing is changed. */
    final void asks(int want, String call, Consumer<Desk> made, Call asked) {
        refusedOnce(want, call, made, asked);
    }

    static int[] from(int least, int most) {
        int[] numbers = new int[most - least + 1];
        for (int i = 0; i < numbers.length; i++) {
            numbers[i] = least + i;
        }
        return numbers;
    }

    /**
     * Numbers that are not least to most: those just beside them, the least and the greatest ones
     * of all, and such as would be inside if only their lower bits were looked at.
     */
    static int[] beside(int least, int most) {
        TreeSet<Integer> numbers = new TreeSet<>(Arrays.asList(LOW, LOW + 1, LOW + 10, TOP, TOP - 1, TOP - 10));
        for (int d = 1; d <= 3; d++) {
            numbers.add(least - d);
            numbers.add(most + d);
        }
        for (int bit = 2; bit < 32; bit++) {
            numbers.add((1 << bit) + least);
            numbers.add((1 << bit) + most);
            numbers.add(-(1 << bit) + least);
            numbers.add(-(1 << bit) + most);
        }
        for (int v = least; v <= most; v++) {
            numbers.add(-v);
        }
        numbers.removeIf(v -> v >= least && v <= most);
        return numbers.stream().mapToInt(v -> v).toArray();
    }

    private static int number(Method m) {
        Matcher name = NAME.matcher(m.getName());
        return name.matches() ? Integer.parseInt(name.group(1)) : 0;
    }

    private void run(Method m) {
        x = new Desk();
        test = m.getName();
        try {
            m.invoke(this);
        } catch (InvocationTargetException e) {
            holds("threw " + e.getCause(), false);
        } catch (IllegalAccessException e) {
            holds("can not be called", false);
        }
    }

    private void words(Method m, String terms, String section) {
        Says says = m.getAnnotation(Says.class);
        test = m.getName();
        holds("has no words of the document beside it", says != null);
        if (says != null) {
            for (String words : says.value()) {
                holds("not in the document: " + words, terms.contains(words) || section.contains(words));
            }
        }
    }

    private static String part(String document, String heading) {
        int begin = document.indexOf(heading);
        int end = document.indexOf("## ", begin + heading.length());
        return begin < 0 ? "" : document.substring(begin, end < 0 ? document.length() : end).replaceAll("\\s+", " ");
    }

    /** Runs all tests of these promises; each promise must have one. */
    final void runAll(String[] args, int first, int last) throws IOException {
        Method[] methods = getClass().getDeclaredMethods();
        Arrays.sort(methods, Comparator.comparingInt(Sentences::number).thenComparing(Method::getName));
        Path path = Path.of(args.length > 1 ? args[1] : "../shared/DOC.md");
        String document = Files.readString(path);
        String terms = part(document, "## What it is") + part(document, "## Terms");
        TreeSet<Integer> found = new TreeSet<>();
        for (Method m : methods) {
            int promise = number(m);
            if (promise > 0) {
                found.add(promise);
                words(m, terms, part(document, "## Promise " + promise + ":"));
                run(m);
            }
        }
        test = "all";
        for (int promise = first; promise <= last; promise++) {
            holds("promise " + promise + " has no test", found.contains(promise));
        }
        check.end();
    }
}
