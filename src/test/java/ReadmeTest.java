import java.io.File;
import java.io.IOException;
import java.lang.reflect.Method;
import java.lang.reflect.Modifier;
import java.nio.file.Files;
import java.nio.file.Path;
import java.nio.file.Paths;
import java.util.ArrayList;
import java.util.Arrays;
import java.util.Comparator;
import java.util.HashSet;
import java.util.List;
import java.util.Set;
import java.util.regex.Matcher;
import java.util.regex.Pattern;
import java.util.stream.Collectors;
import java.util.stream.Stream;

/** README.md: what it says is tried as it is written there. */
final class ReadmeTest {
    private static final String PROGRAM = "src/example/java/Mine.java";
    private static final String CLASS = "src/main/java/DonkeysHour.java";
    private static final Pattern EXAMPLE = Pattern.compile(
        "^\\| `(\\w+)\\(([^`]*)\\)` \\| ([^`]+) \\| `([^`]+)` \\| `([^`]+)` \\| (?:`([^`]+)` )?\\|$", Pattern.MULTILINE);
    private static final Pattern TEXT = Pattern.compile(
        "^\\| `(stable|flies|rule|day)` \\| .* \\| `([^`]+)` \\|$", Pattern.MULTILINE);
    private static final Pattern STEP = Pattern.compile("tell\\(x, \"([^\"]*)\"\\)|x\\.(\\w+)\\(([^)]*)\\)");

    private ReadmeTest() {
    }

    static void run() {
        Check.promise(Check.README);
        try {
            String readme = read("README.md");
            program(readme);
            texts(readme);
            examples(readme);
            namesAllTests(readme);
        } catch (IOException | InterruptedException e) {
            throw new IllegalStateException(e);
        }
    }

    private static String read(String file) throws IOException {
        return new String(Files.readAllBytes(Paths.get(file)), "ISO-8859-1");
    }

    private static String block(String readme, String kind) {
        Matcher m = Pattern.compile("^```" + kind + "\n([\\s\\S]*?)^```$", Pattern.MULTILINE).matcher(readme);
        return m.find() ? m.group(1) : "there is no block of " + kind;
    }

    private static void same(String what, Object got, Object due) {
        if (!got.equals(due)) {
            System.out.println(what + ": " + got + "\nbut due is: " + due);
        }
        Check.is(what, got.equals(due), true);
    }

    /** The commands are run in a directory that has the class and the program alone, where README.md says. */
    private static void program(String readme) throws IOException, InterruptedException {
        same("README.md's program, " + PROGRAM, block(readme, "java"), read(PROGRAM));
        Path top = Files.createTempDirectory("readme");
        try {
            for (String file : new String[] {PROGRAM, CLASS}) {
                Files.createDirectories(top.resolve(file).getParent());
                Files.copy(Paths.get(file), top.resolve(file));
            }
            StringBuilder printed = new StringBuilder();
            for (String command : block(readme, "sh").split("\n")) {
                printed.append(printedBy(command, top.toFile()));
            }
            same("what README.md's program prints", printed.toString(), block(readme, "text"));
        } finally {
            try (Stream<Path> all = Files.walk(top)) {
                all.sorted(Comparator.reverseOrder()).forEach(p -> p.toFile().delete());
            }
        }
    }

    private static String printedBy(String command, File top) throws IOException, InterruptedException {
        Process p = new ProcessBuilder(command.split(" ")).directory(top).redirectError(ProcessBuilder.Redirect.INHERIT).start();
        String printed = new String(p.getInputStream().readAllBytes(), "ISO-8859-1");
        Check.is(command + " ends with", p.waitFor(), 0);
        return printed.replace(System.lineSeparator(), "\n");
    }

    /** Those told for instance stand, on an object as the examples have it. */
    private static void texts(String readme) {
        List<String> told = new ArrayList<>();
        Matcher m = TEXT.matcher(readme);
        while (m.find()) {
            String name = m.group(1);
            told.add(name);
            DonkeysHour x = name.equals("stable") ? new DonkeysHour() : Check.with("5:0000;3:20010", "1+c");
            Check.tell(x, m.group(2));
            int things = m.group(2).split(";").length;
            Check.is(name + " of " + m.group(2), Calls.real(x, name, new int[0]),
                name.equals("flies") ? m.group(2).length() : name.equals("rule") ? 0 : things);
        }
        same("texts that README.md tells", told, Arrays.asList("stable", "flies", "rule", "day"));
    }

    private static void examples(String readme) {
        String table = readme.substring(readme.indexOf("## The calls"), readme.indexOf("## Running the tests"));
        List<String> told = new ArrayList<>();
        Matcher m = EXAMPLE.matcher(table);
        while (m.find()) {
            told.add(m.group(1));
            same("what README.md says " + m.group(1) + " takes", kinds(m.group(2)), taken(m.group(1)));
            example(m.group(1), m.group(4), m.group(5), m.group(6) == null ? "" : m.group(6));
        }
        same("calls that README.md tells", told, Arrays.asList(Calls.NAMES));
        same("lines of the table", (long) told.size(), table.lines().filter(line -> line.startsWith("|")).count() - 2);
    }

    private static List<String> kinds(String arguments) {
        return arguments.isEmpty() ? new ArrayList<>()
            : Arrays.stream(arguments.split(", ")).map(a -> a.split(" ")[0]).collect(Collectors.toList());
    }

    private static List<String> taken(String name) {
        for (Method m : DonkeysHour.class.getDeclaredMethods()) {
            if (m.getName().equals(name) && Modifier.isPublic(m.getModifiers())) {
                return Arrays.stream(m.getParameterTypes()).map(Class::getName).collect(Collectors.toList());
            }
        }
        return Arrays.asList("there is no such call");
    }

    private static void example(String name, String steps, String is, String row) {
        DonkeysHour x = Check.with("5:0000;3:20010", "1+c");
        long answer = Calls.THROWN;
        String last = "";
        Matcher m = STEP.matcher(steps);
        int read = 0;
        while (m.find()) {
            same("steps of " + steps, steps.substring(read, m.start()), read == 0 ? "" : "; ");
            read = m.end();
            if (m.group(2) == null) {
                Check.tell(x, m.group(1));
            } else {
                last = m.group(2);
                answer = Calls.real(x, last, numbers(m.group(3)));
            }
        }
        same("steps of " + steps + " are read", read, steps.length());
        same("the call of " + steps, last, name);
        Check.is(steps, answer, is.equals("true") ? 1 : is.equals("false") ? 0 : Long.parseLong(is));
        StringBuilder told = new StringBuilder();
        for (int i = 0; i < x.count(8); i++) {
            told.append(i == 0 ? "" : " ").append(x.row(i));
        }
        same("the row behind " + steps, told.toString(), row);
    }

    private static int[] numbers(String arguments) {
        return arguments.isEmpty() ? new int[0]
            : Arrays.stream(arguments.split(", ")).mapToInt(a -> Long.decode(a).intValue()).toArray();
    }

    /** Each file of tests has its line, and no other is named. */
    private static void namesAllTests(String readme) {
        String part = readme.substring(readme.indexOf("## Running the tests"));
        Set<String> named = new HashSet<>();
        Matcher m = Pattern.compile("`(\\w+(?:Test|Edges))`").matcher(part);
        while (m.find()) {
            named.add(m.group(1));
        }
        Set<String> there = new HashSet<>();
        String[] files = new File("src/test/java").list();
        for (String file : files == null ? new String[0] : files) {
            if (file.matches("\\w+(Test|Edges)\\.java")) {
                there.add(file.substring(0, file.indexOf('.')));
            }
        }
        same("tests that README.md names", named, there);
    }
}
