import java.io.IOException;
import java.lang.reflect.Constructor;
import java.lang.reflect.Field;
import java.lang.reflect.Method;
import java.lang.reflect.Modifier;
import java.nio.file.Files;
import java.nio.file.Paths;
import java.util.ArrayList;
import java.util.Arrays;
import java.util.HashSet;
import java.util.List;
import java.util.Set;
import java.util.regex.Matcher;
import java.util.regex.Pattern;

/** The rules of LANGUAGE.md that can be seen from outside, and the face of the document. */
final class LanguageTest {
    private static final String SOURCE = "src/main/java/DonkeysHour.java";
    /** A catch of what the machine throws, or of a class above it. */
    private static final String CATCH = "\\bcatch\\s*\\([^)]*\\b(Throwable|Exception|RuntimeException|IndexOutOfBoundsException"
        + "|ArrayIndexOutOfBoundsException|NullPointerException|ClassCastException|NegativeArraySizeException|ArrayStoreException)\\b";
    private static final String[] FORBIDDEN = {
        "(\\)|(?<!case |, )\\b\\w+) ->", "::", CATCH, "\\bfinally\\b", "\\bsynchronized\\b", "\\bassert\\b", "\\bObject\\b", "\\bhashCode\\b",
        "\\bprotected\\b", "\\bpackage\\b", "\\bstatic\\s*\\{", "\\bMath\\.\\w+Exact\\b", "\\bSystem\\.(?!arraycopy\\b)",
        "\"\\s*\\+", "\\+\\s*\"", "\\bThread\\b", "\\bRandom\\b", "[^\\x00-\\x7f]"
    };

    private LanguageTest() {
    }

    static void run() {
        Check.promise(Check.LANGUAGE);
        face();
        insideClasses();
        String source = source();
        String code = source.replaceAll("/\\*[\\s\\S]*?\\*/|//[^\\n]*", "");
        for (String word : FORBIDDEN) {
            Check.is("forbidden " + word, Pattern.compile(word).matcher(code).find(), false);
        }
        Check.is("one import", count(code, "\\bimport\\b"), 1);
        Check.is("the import", count(code, "import java\\.util\\.NoSuchElementException;"), 1);
        Check.is("static fields are final", count(code, "static (?!final )(int|boolean|String|long|char)(\\[\\])? \\w+( =|;)"), 0);
        methods(code);
    }

    private static String source() {
        try {
            return new String(Files.readAllBytes(Paths.get(SOURCE)), "ISO-8859-1");
        } catch (IOException e) {
            throw new IllegalStateException(e);
        }
    }

    private static int count(String code, String pattern) {
        Matcher m = Pattern.compile(pattern).matcher(code);
        int n = 0;
        while (m.find()) {
            n++;
        }
        return n;
    }

    private static void face() {
        Set<String> due = new HashSet<>(Arrays.asList(Calls.NAMES));
        int open = 0;
        for (Method m : DonkeysHour.class.getDeclaredMethods()) {
            if (!Modifier.isPrivate(m.getModifiers()) && !m.isSynthetic()) {
                open++;
                boolean truth = Arrays.asList("end", "keep", "again").contains(m.getName());
                Check.is(m + " is of the face", due.remove(m.getName()) && Modifier.isPublic(m.getModifiers()), true);
                Check.is(m + " takes", m.getParameterCount(), Calls.arguments(m.getName()));
                Check.is(m + " answers", m.getReturnType() == (truth ? boolean.class : int.class), true);
            } else if (!m.isSynthetic()) {
                Check.is(m + " bears no public name", Arrays.asList(Calls.NAMES).contains(m.getName()), false);
            }
        }
        Check.is("all are there", open, Calls.NAMES.length);
        for (Field f : DonkeysHour.class.getDeclaredFields()) {
            Check.is(f + " is open", !Modifier.isPrivate(f.getModifiers()), f.getName().equals("NONE"));
        }
        Constructor<?>[] made = DonkeysHour.class.getDeclaredConstructors();
        Check.is("one constructor", made.length, 1);
        Check.is("it is public", Modifier.isPublic(made[0].getModifiers()), true);
        Check.is("the class is public and final", DonkeysHour.class.getModifiers() & (Modifier.PUBLIC | Modifier.FINAL),
            Modifier.PUBLIC | Modifier.FINAL);
    }

    private static void insideClasses() {
        List<Class<?>> all = new ArrayList<>(Arrays.asList(DonkeysHour.class.getDeclaredClasses()));
        for (Class<?> c : all) {
            int is = c.getModifiers();
            Check.is(c + " is static and not open", Modifier.isStatic(is) && !Modifier.isPublic(is), true);
            Check.is(c + " has no class inside", c.getDeclaredClasses().length, 0);
            for (Method m : c.getDeclaredMethods()) {
                Check.is(m + " bears no public name", Arrays.asList(Calls.NAMES).contains(m.getName()), false);
            }
            for (Field f : c.getDeclaredFields()) {
                boolean fixed = !Modifier.isStatic(f.getModifiers()) || Modifier.isFinal(f.getModifiers());
                Check.is(f + " is no static state", fixed, true);
            }
        }
        Check.is("some twelve classes at most", all.size() + 1 <= 12, true);
        all.add(DonkeysHour.class);
        for (Class<?> c : all) {
            int fields = 0;
            for (Field f : c.getDeclaredFields()) {
                fields += Modifier.isStatic(f.getModifiers()) ? 0 : 1;
            }
            Check.is(c + " has some twenty fields at most, " + fields, fields <= 20, true);
        }
    }

    /** Methods are short and take few parameters. */
    private static void methods(String code) {
        Pattern head = Pattern.compile("^( *)(?:public |private |static )*[\\w\\[\\]]+ (\\w+)\\(([^)]*)\\)[^;]*\\{$");
        String[] lines = code.split("\n");
        int seen = 0;
        for (int i = 0; i < lines.length; i++) {
            Matcher m = head.matcher(lines[i]);
            if (m.matches() && !lines[i].contains(" else ") && !lines[i].contains("new ")) {
                seen++;
                int end = i + 1;
                while (end < lines.length && !lines[end].equals(m.group(1) + "}")) {
                    end++;
                }
                Check.is(m.group(2) + " is short", end - i < 60, true);
                Check.is(m.group(2) + " takes few", m.group(3).split(",").length <= 7, true);
            }
        }
        Check.is("methods were seen", seen > Calls.NAMES.length, true);
    }
}
