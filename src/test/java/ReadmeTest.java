import java.io.IOException;
import java.lang.reflect.Method;
import java.lang.reflect.Modifier;
import java.net.URL;
import java.net.URLClassLoader;
import java.nio.file.Files;
import java.nio.file.Path;
import java.util.ArrayList;
import java.util.Comparator;
import java.util.List;
import java.util.Map;
import java.util.Set;
import java.util.TreeMap;
import java.util.TreeSet;
import java.util.regex.Matcher;
import java.util.regex.Pattern;
import java.util.stream.Stream;
import javax.tools.ToolProvider;

/**
 * Whether README.md is true: its Java is compiled as it stands there, each call of it must answer
 * what is told behind it; every call of the class is shown; the classes and tests named are there.
 */
public final class ReadmeTest {
    private static final Map<String, Integer> CONSTANTS = Map.of(
            "BAD", RunSorter.BAD, "NO", RunSorter.NO, "FULL", RunSorter.FULL, "NONE", RunSorter.NONE);
    private static final String ANSWER = "(?:-?\\d+|BAD|NO|FULL|NONE)";
    private static final String ANSWERS = ANSWER + "(?: to " + ANSWER + ")?";
    private static final Pattern CALL = Pattern.compile(
            "\\s*(sorter\\.(\\w+)\\([^;]*\\));\\s*// (" + ANSWERS + "(?:, " + ANSWERS + ")*)(?:: .*)?");

    private static int wrong = 0;

    private final List<String> page;
    private final StringBuilder program = new StringBuilder();
    private final Map<Integer, String> shown = new TreeMap<>();
    private final Map<Integer, List<Integer>> told = new TreeMap<>();
    private final Set<String> names = new TreeSet<>();

    private ReadmeTest(List<String> page) {
        this.page = page;
    }

    public static void main(String[] args) throws Exception {
        ReadmeTest test = new ReadmeTest(Files.readAllLines(Path.of("README.md")));
        test.readBlocks();
        test.answersAreAsTold(test.heard());
        test.everyCallIsShown();
        test.constantsAreAsTold();
        test.classesAreNamed();
        test.testsAreNamed();
        System.out.println(wrong == 0 ? test.told.size() + " calls of README.md answer as told"
                : wrong + " faults of README.md");
        if (wrong != 0) {
            System.exit(1);
        }
    }

    private static void say(String what) {
        wrong++;
        System.out.println("README.md: " + what);
    }

    /** Each block becomes a scope of its own; a call that is shown there is heard with its line. */
    private void readBlocks() {
        boolean inside = false;
        for (int i = 0; i < page.size(); i++) {
            String line = page.get(i);
            if (line.equals("```java")) {
                inside = true;
                program.append("{\n");
            } else if (inside && line.equals("```")) {
                inside = false;
                program.append("}\n");
            } else if (inside) {
                readLine(i + 1, line);
            }
        }
        if (inside) {
            say("a block has no end");
        }
    }

    private void readLine(int number, String line) {
        Matcher call = CALL.matcher(line);
        if (call.matches()) {
            shown.put(number, call.group(1));
            names.add(call.group(2));
            told.put(number, numbers(call.group(3)));
            program.append("hear(heard, ").append(number).append(", ").append(call.group(1)).append(");\n");
            return;
        }
        if (line.contains("sorter.")) {
            say("line " + number + " shows a call without an answer: " + line.strip());
        }
        program.append(line).append("\n");
    }

    /** '1 to 3, NO' is 1, 2, 3, -2: what the call of that line answers, time after time. */
    private static List<Integer> numbers(String answers) {
        List<Integer> all = new ArrayList<>();
        for (String part : answers.split(", ")) {
            String[] ends = part.split(" to ");
            int last = number(ends[ends.length - 1]);
            for (int n = number(ends[0]); n <= last; n++) {
                all.add(n);
            }
        }
        return all;
    }

    private static int number(String answer) {
        return CONSTANTS.containsKey(answer) ? CONSTANTS.get(answer) : Integer.parseInt(answer);
    }

    private Map<Integer, List<Integer>> heard() throws Exception {
        Map<Integer, List<Integer>> heard = new TreeMap<>();
        Path folder = Files.createTempDirectory("readme");
        try {
            Path source = folder.resolve("Shown.java");
            Files.writeString(source, "import java.util.*;\npublic final class Shown {\n"
                    + "private static void hear(Map<Integer, List<Integer>> heard, int line, int answer) {\n"
                    + "heard.computeIfAbsent(line, n -> new ArrayList<>()).add(answer);\n}\n"
                    + "public static void show(Map<Integer, List<Integer>> heard) {\n" + program + "}\n}\n");
            int failed = ToolProvider.getSystemJavaCompiler().run(null, null, null, "-d", folder.toString(),
                    "-cp", System.getProperty("java.class.path"), source.toString());
            if (failed != 0) {
                // No call was made, so none is blamed for its answer.
                say("its Java does not compile");
                return told;
            }
            try (URLClassLoader loader = new URLClassLoader(new URL[] {folder.toUri().toURL()})) {
                loader.loadClass("Shown").getMethod("show", Map.class).invoke(null, heard);
            }
        } finally {
            remove(folder);
        }
        return heard;
    }

    private static void remove(Path folder) throws IOException {
        try (Stream<Path> all = Files.walk(folder)) {
            for (Path path : all.sorted(Comparator.reverseOrder()).toList()) {
                Files.delete(path);
            }
        }
    }

    private void answersAreAsTold(Map<Integer, List<Integer>> heard) {
        for (Map.Entry<Integer, List<Integer>> entry : told.entrySet()) {
            List<Integer> answers = heard.getOrDefault(entry.getKey(), List.of());
            if (!answers.equals(entry.getValue())) {
                say("line " + entry.getKey() + ": " + shown.get(entry.getKey()) + " answered " + answers
                        + ", told is " + entry.getValue());
            }
        }
    }

    private void everyCallIsShown() {
        for (Method m : RunSorter.class.getDeclaredMethods()) {
            if (Modifier.isPublic(m.getModifiers()) && !names.contains(m.getName())) {
                say(m.getName() + "() is not shown");
            }
        }
    }

    private void constantsAreAsTold() {
        String text = String.join(" ", page);
        for (Map.Entry<String, Integer> constant : CONSTANTS.entrySet()) {
            if (!text.contains("`" + constant.getKey() + "` (" + constant.getValue() + ")")) {
                say(constant.getKey() + " is not told as " + constant.getValue());
            }
        }
    }

    /** The names that stand first in the items of the list under a heading. */
    private Set<String> itemsUnder(String heading) {
        Set<String> items = new TreeSet<>();
        boolean under = false;
        for (String line : page) {
            under = line.startsWith("## ") ? line.equals(heading) : under;
            Matcher item = Pattern.compile("- `(\\w+)`.*").matcher(line);
            if (under && item.matches()) {
                items.add(item.group(1));
            }
        }
        return items;
    }

    private void classesAreNamed() {
        Set<String> there = new TreeSet<>(Set.of("RunSorter"));
        for (Class<?> inside : RunSorter.class.getDeclaredClasses()) {
            there.add(inside.getSimpleName());
        }
        same("classes", itemsUnder("## How it is made"), there);
    }

    private void testsAreNamed() throws IOException {
        Set<String> there = new TreeSet<>();
        try (Stream<Path> files = Files.list(Path.of("src/test/java"))) {
            for (Path file : files.toList()) {
                String name = file.getFileName().toString();
                if (name.endsWith("Test.java")) {
                    there.add(name.substring(0, name.length() - ".java".length()));
                }
            }
        }
        same("tests", itemsUnder("## How to run its tests"), there);
        if (!page.contains("    .ci/run") || !Files.isExecutable(Path.of(".ci/run"))) {
            say(".ci/run is not named, or can't be run");
        }
    }

    private static void same(String what, Set<String> named, Set<String> there) {
        if (!named.equals(there)) {
            say("it names the " + what + " " + named + ", there are " + there);
        }
    }
}
