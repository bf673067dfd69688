import java.io.IOException;
import java.lang.reflect.InvocationTargetException;
import java.lang.reflect.Method;
import java.lang.reflect.Modifier;
import java.nio.file.Files;
import java.nio.file.Path;
import java.util.ArrayList;
import java.util.List;
import java.util.TreeSet;
import java.util.regex.Matcher;
import java.util.regex.Pattern;
import java.util.stream.Stream;

/** What README.md says holds: its calls answer as it says, and the tests run as it says. */
public final class ReadmeTest {
    private static final Path README = Path.of("README.md");
    private static final Path TESTS = Path.of("src/test/java");
    private static final String RUN_ALL = ".ci/run";
    private static final String NEW_OBJECT = "MirrorGroup group = new MirrorGroup();";
    private static final Pattern CALL =
            Pattern.compile("group\\.(\\w+)\\(([-0-9, ]*)\\);\\s+// (\\S.*)");
    private static final Pattern TEST_NAME = Pattern.compile("`(\\w+(?:Test|Sentences))`");

    public static void main(String[] args) throws Exception {
        String readme = Files.readString(README);
        callsAnswerAsSaid(blocks(readme, "java"));
        testsRunAsSaid(blocks(readme, "sh"));
        testsAreTheOnesNamed(readme);
        Check.finish("ReadmeTest");
    }

    /** The texts between the lines that open a block of this kind and the lines that close it. */
    private static List<String> blocks(String readme, String kind) {
        List<String> blocks = new ArrayList<>();
        Matcher block = Pattern.compile("(?s)\n```" + kind + "\n(.*?)\n```\n").matcher(readme);
        while (block.find()) {
            blocks.add(block.group(1));
        }
        return blocks;
    }

    private static void callsAnswerAsSaid(List<String> blocks) throws IllegalAccessException {
        MirrorGroup group = null;
        TreeSet<String> shown = new TreeSet<>();
        for (String line : String.join("\n", blocks).split("\n")) {
            Matcher call = CALL.matcher(line);
            if (line.equals(NEW_OBJECT)) {
                group = new MirrorGroup();
            } else if (call.matches()) {
                shown.add(call.group(1));
                dueAnswer(group, line, call);
            } else {
                Check.dueText("a line that is no call with its answer", line, "");
            }
        }
        Check.dueText("calls that are shown", shown.toString(), namesOfTheFace().toString());
    }

    private static void dueAnswer(MirrorGroup group, String line, Matcher call)
            throws IllegalAccessException {
        Method method = methodNamed(call.group(1));
        String said = call.group(3).split(":")[0];
        boolean answersNothing = method.getReturnType() == void.class;
        String want = answersNothing && !said.startsWith("throws ") ? Check.NOTHING : said;
        Check.dueText("README.md, " + line, answerOf(group, method, numbers(call.group(2))), want);
    }

    private static Object[] numbers(String text) {
        return text.isEmpty() ? new Object[0] : Stream.of(text.split(", "))
                .map(Integer::valueOf).toArray();
    }

    private static String answerOf(MirrorGroup group, Method method, Object[] arguments)
            throws IllegalAccessException {
        try {
            Object answer = method.invoke(group, arguments);
            return answer == null ? Check.NOTHING : answer.toString();
        } catch (InvocationTargetException e) {
            return "throws " + e.getCause().getClass().getSimpleName();
        }
    }

    private static Method methodNamed(String name) {
        for (Method method : MirrorGroup.class.getDeclaredMethods()) {
            if (method.getName().equals(name)) {
                return method;
            }
        }
        throw new IllegalArgumentException("README.md shows a call that is not there: " + name);
    }

    private static TreeSet<String> namesOfTheFace() {
        TreeSet<String> names = new TreeSet<>();
        for (Method method : MirrorGroup.class.getDeclaredMethods()) {
            if (Modifier.isPublic(method.getModifiers())) {
                names.add(method.getName());
            }
        }
        return names;
    }

    private static void testsRunAsSaid(List<String> blocks)
            throws IOException, InterruptedException {
        Check.due("README.md, blocks of commands", blocks.size(), 2);
        Check.dueText("README.md, the command that runs all tests", blocks.get(0), RUN_ALL);
        Check.due(RUN_ALL + " is executable", Files.isExecutable(Path.of(RUN_ALL)) ? 1 : 0, 1);
        // The first block is what runs this test, so that only the others are run here.
        for (String commands : blocks.subList(1, blocks.size())) {
            Process shell = new ProcessBuilder("sh", "-e", "-c", commands).inheritIO().start();
            Check.due("README.md, the end of its commands", shell.waitFor(), 0);
        }
    }

    private static void testsAreTheOnesNamed(String readme) throws IOException {
        TreeSet<String> named = new TreeSet<>();
        Matcher name = TEST_NAME.matcher(readme);
        while (name.find()) {
            named.add(name.group(1));
        }
        TreeSet<String> there = new TreeSet<>();
        try (Stream<Path> files = Files.list(TESTS)) {
            files.map(file -> file.getFileName().toString().replace(".java", ""))
                    .filter(file -> file.endsWith("Test") || file.endsWith("Sentences"))
                    .forEach(there::add);
        }
        Check.dueText("README.md, tests that are named", named.toString(), there.toString());
    }
}
