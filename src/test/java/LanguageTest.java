import java.io.IOException;
import java.lang.reflect.Constructor;
import java.lang.reflect.Field;
import java.lang.reflect.Method;
import java.lang.reflect.Modifier;
import java.nio.file.Files;
import java.nio.file.Path;
import java.util.ArrayList;
import java.util.Arrays;
import java.util.List;
import java.util.Set;
import java.util.TreeSet;
import java.util.regex.Matcher;
import java.util.regex.Pattern;

/** The face of the document, and those rules of LANGUAGE.md that can be seen from outside. */
public final class LanguageTest {
    private static final String[] FACE = {
        "panel 3", "pop 0", "change 3", "high 1", "of 2", "tier 3",
        "say 1", "wipe 0", "judge 1", "told 1", "at 2", "best 1", "lay 0",
        "talk 1", "speaker 2", "good 2", "isGood 1",
        "image 1", "restore 1", "count 1",
    };
    private static final String[] CONSTANTS = {"UNKNOWN", "OUTSIDE", "STATE", "FULL", "NO", "NONE", "FAULT"};
    private static final String FORBIDDEN = "\\b(throw|throws|try|catch|synchronized|assert|import|package|native|Object)\\b"
        + "|->|::|Exact\\b|\\bnew\\s+\\w+\\s*\\([^)]*\\)\\s*\\{";

    private final Check check = new Check("LanguageTest");
    private final Set<String> publicNames = new TreeSet<>();

    private void face() {
        Class<?> c = PanelPages.class;
        check.holds("the class is public and final", Modifier.isPublic(c.getModifiers()) && Modifier.isFinal(c.getModifiers()));
        Set<String> methods = new TreeSet<>();
        for (Method m : c.getDeclaredMethods()) {
            if (m.isSynthetic() || Modifier.isPrivate(m.getModifiers())) {
                continue;
            }
            boolean ints = m.getReturnType() == int.class;
            for (Class<?> p : m.getParameterTypes()) {
                ints &= p == int.class;
            }
            check.holds(m + " is of ints, public, not static",
                ints && Modifier.isPublic(m.getModifiers()) && !Modifier.isStatic(m.getModifiers()));
            methods.add(m.getName() + " " + m.getParameterCount());
            publicNames.add(m.getName());
        }
        check.holds("the methods are those of the document: " + methods, methods.equals(new TreeSet<>(Arrays.asList(FACE))));
        Constructor<?>[] made = c.getDeclaredConstructors();
        check.holds("one public constructor without arguments",
            made.length == 1 && made[0].getParameterCount() == 0 && Modifier.isPublic(made[0].getModifiers()));
        Set<String> fields = new TreeSet<>();
        for (Field f : c.getDeclaredFields()) {
            if (!Modifier.isPrivate(f.getModifiers())) {
                fields.add(f.getName());
                check.holds(f + " is a constant", f.toString().startsWith("public static final int "));
            }
        }
        check.holds("the constants are those of the document: " + fields, fields.equals(new TreeSet<>(Arrays.asList(CONSTANTS))));
    }

    private void inside() {
        List<Class<?>> all = new ArrayList<>(Arrays.asList(PanelPages.class.getDeclaredClasses()));
        for (Class<?> c : all) {
            check.holds(c + " is static and not public",
                Modifier.isStatic(c.getModifiers()) && !Modifier.isPublic(c.getModifiers()) && !Modifier.isProtected(c.getModifiers()));
            for (Method m : c.getDeclaredMethods()) {
                check.holds(m + " bears the name of a public one", !publicNames.contains(m.getName()));
            }
        }
        all.add(PanelPages.class);
        check.holds("at most twelve classes", all.size() <= 12);
        for (Class<?> c : all) {
            int own = 0;
            for (Field f : c.getDeclaredFields()) {
                boolean isStatic = Modifier.isStatic(f.getModifiers());
                check.holds(f + " is static and not final", !isStatic || Modifier.isFinal(f.getModifiers()));
                own += isStatic ? 0 : 1;
            }
            check.holds(c + " has more than 20 fields", own <= 20);
            for (Method m : c.getDeclaredMethods()) {
                check.holds(m + " has more than seven parameters", m.getParameterCount() <= 7);
                boolean twice = Modifier.isPrivate(m.getModifiers()) && publicNames.contains(m.getName());
                check.holds(m + " is private and bears a public name", !twice);
            }
        }
    }

    private void words(String source) {
        String code = source.replaceAll("(?s)/\\*.*?\\*/", "").replaceAll("//[^\n]*", "");
        Matcher m = Pattern.compile(FORBIDDEN).matcher(code);
        while (m.find()) {
            check.holds("outside the language: " + m.group(), false);
        }
        check.holds("only signs 1 to 127", source.chars().allMatch(c -> c >= 1 && c <= 127));
    }

    public static void main(String[] args) throws IOException {
        LanguageTest t = new LanguageTest();
        t.face();
        t.inside();
        t.words(Files.readString(Path.of(args.length > 0 ? args[0] : "src/main/java/PanelPages.java")));
        t.check.end();
    }
}
