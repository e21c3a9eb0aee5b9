import java.io.IOException;
import java.io.UncheckedIOException;
import java.lang.reflect.Field;
import java.lang.reflect.Method;
import java.lang.reflect.Modifier;
import java.nio.file.Files;
import java.nio.file.Path;
import java.util.ArrayList;
import java.util.Arrays;
import java.util.List;
import java.util.Set;
import java.util.TreeMap;
import java.util.TreeSet;
import java.util.regex.Matcher;
import java.util.regex.Pattern;
import java.util.stream.Stream;

// What README.md shows is what the class does: its calls are made and their answers compared, and so
// are its tables; the tests that it names are those that there are.
public final class ReadmeTest extends Check {
    private static final Pattern MAKES =
        Pattern.compile("AclInherit acl = new AclInherit\\(\\);(\\s*//.*)?");
    private static final Pattern CALLS =
        Pattern.compile("acl\\.(\\w+)\\(([0-9+, -]*)\\);\\s*// (-?\\w+)(: .+)?");
    private static final Pattern CODE = Pattern.compile("\\| `(\\w+)` \\| (-?\\d+) \\| .+ \\|");
    private static final Pattern FLAGS =
        Pattern.compile("\\| (\\d) \\| (yes|no) \\| (yes|no) \\| (yes|no) \\|");
    private static final Pattern NAMES_TEST = Pattern.compile("`(\\w+Test)`");

    private static final List<String> README = linesOf("README.md");

    /** A call that README.md shows, with the answer shown. */
    private record Shown(String name, int[] args, String answer) { }

    private static List<String> linesOf(String file) {
        try {
            return Files.readAllLines(Path.of(file));
        } catch (IOException e) {
            throw new UncheckedIOException(e);
        }
    }

    /** The lines of all blocks of this language, without the empty ones. */
    private static List<String> blocks(String language) {
        List<String> lines = new ArrayList<>();
        String inside = "";
        for (String line : README) {
            if (line.startsWith("```")) {
                inside = line.substring(3);
            } else if (inside.equals(language) && !line.isBlank()) {
                lines.add(line);
            }
        }
        return lines;
    }

    private static int sum(String text) {
        return Arrays.stream(text.split("\\+")).mapToInt(part -> Integer.parseInt(part.strip())).sum();
    }

    private static Shown shownIn(String line) {
        Matcher m = CALLS.matcher(line);
        if (!m.matches()) {
            throw new IllegalArgumentException("no call with its answer: " + line);
        }
        int[] args = Arrays.stream(m.group(2).split(",")).mapToInt(ReadmeTest::sum).toArray();
        return new Shown(m.group(1), args, m.group(3));
    }

    private static List<Shown> allShown() {
        List<String> lines = blocks("java");
        return lines.stream().filter(line -> !MAKES.matcher(line).matches()).map(ReadmeTest::shownIn).toList();
    }

    private static Set<String> publicMethods() {
        Set<String> names = new TreeSet<>();
        for (Method m : AclInherit.class.getDeclaredMethods()) {
            if (Modifier.isPublic(m.getModifiers())) {
                names.add(m.getName());
            }
        }
        return names;
    }

    private static TreeMap<String, Integer> codes() throws IllegalAccessException {
        TreeMap<String, Integer> codes = new TreeMap<>();
        for (Field f : AclInherit.class.getDeclaredFields()) {
            if (Modifier.isPublic(f.getModifiers())) {
                codes.put(f.getName(), f.getInt(null));
            }
        }
        return codes;
    }

    /** A name for each code, since README.md shows a refusal by its name. */
    private static String asShown(Object answer) throws IllegalAccessException {
        for (var code : codes().entrySet()) {
            if (code.getValue().equals(answer)) {
                return code.getKey();
            }
        }
        return answer.toString();
    }

    private static Object answerOf(AclInherit acl, Shown shown) throws ReflectiveOperationException {
        Class<?>[] types = new Class<?>[shown.args().length];
        Arrays.fill(types, int.class);
        Object[] args = Arrays.stream(shown.args()).boxed().toArray();
        return AclInherit.class.getMethod(shown.name(), types).invoke(acl, args);
    }

    private static void theObjectIsMadeFirstAndOnce() {
        List<String> lines = blocks("java");
        due("the first line makes the object", MAKES.matcher(lines.get(0)).matches(), true);
        due("calls shown", allShown().size(), lines.size() - 1);
    }

    private static void theAnswersShownAreGiven() throws ReflectiveOperationException {
        AclInherit acl = new AclInherit();
        for (Shown shown : allShown()) {
            String got = asShown(answerOf(acl, shown));
            String call = shown.name() + Arrays.toString(shown.args());
            due(call + " answered " + got + ", shown is " + shown.answer(), got.equals(shown.answer()), true);
        }
    }

    private static void everyCallAndEveryCodeIsShown() throws IllegalAccessException {
        Set<String> names = new TreeSet<>();
        Set<String> answers = new TreeSet<>();
        for (Shown shown : allShown()) {
            names.add(shown.name());
            answers.add(shown.answer());
        }
        for (String name : publicMethods()) {
            due("a use of " + name + " is shown", names.contains(name), true);
        }
        for (String code : codes().keySet()) {
            due("a call that answers " + code + " is shown", answers.contains(code), true);
        }
    }

    private static void theTableOfCodes() throws IllegalAccessException {
        TreeMap<String, Integer> shown = new TreeMap<>();
        for (String line : README) {
            Matcher m = CODE.matcher(line);
            if (m.matches()) {
                shown.put(m.group(1), Integer.valueOf(m.group(2)));
            }
        }
        due("the codes shown, " + shown + ", are those of the class", shown.equals(codes()), true);
    }

    private static void theTableOfFlags() {
        int rows = 0;
        for (String line : README) {
            Matcher m = FLAGS.matcher(line);
            if (m.matches()) {
                due("the row of the flags " + rows, Integer.parseInt(m.group(1)), rows);
                for (int o = 0; o <= 4; o++) {
                    boolean counts = m.group(2 + Math.min(o, 2)).equals("yes");
                    flagsCount(rows, o, counts);
                }
                rows++;
            }
        }
        due("the rows of the table of flags", rows, 8);
    }

    private static void flagsCount(int flags, int o, boolean counts) {
        AclInherit allowing = chain(4);
        allowing.entry(0, 1, 5, ALLOW + flags);
        due("flags " + flags + ", allowing, on " + o, allowing.rights(o, 1), counts ? 5 : 0);
        AclInherit denying = chain(4);
        denying.entry(0, 1, 15, ALLOW + PASSED_ON);
        denying.entry(0, 1, 5, DENY + flags);
        due("flags " + flags + ", denying, on " + o, denying.rights(o, 1), counts ? 10 : 15);
    }

    private static void theTestsNamedAreThoseThatThereAre() throws IOException {
        Set<String> named = new TreeSet<>();
        for (String line : README) {
            NAMES_TEST.matcher(line).results().forEach(found -> named.add(found.group(1)));
        }
        Set<String> there = new TreeSet<>();
        try (Stream<Path> files = Files.list(Path.of("src/test/java"))) {
            files.forEach(file -> there.add(file.getFileName().toString().replace(".java", "")));
        }
        due("the tests named, " + named + ", are " + there, named.equals(there), true);
    }

    private static void theCommandShownIsThere() {
        List<String> commands = blocks("sh");
        due("one command is shown", commands.size(), 1);
        due("it can be run", Files.isExecutable(Path.of(commands.get(0))), true);
    }

    public static void main(String[] args) {
        runAll(ReadmeTest.class);
    }
}
