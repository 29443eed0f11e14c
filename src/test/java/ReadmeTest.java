import java.lang.reflect.Method;
import java.lang.reflect.Modifier;
import java.net.URL;
import java.net.URLClassLoader;
import java.nio.file.Files;
import java.nio.file.Path;
import java.util.ArrayList;
import java.util.Arrays;
import java.util.List;
import java.util.Set;
import java.util.TreeSet;
import java.util.regex.Matcher;
import java.util.regex.Pattern;
import java.util.stream.Collectors;
import java.util.stream.Stream;
import javax.tools.ToolProvider;

/** What README.md says holds: its examples answer what stands behind them, and what it names is there. */
public final class ReadmeTest {
    private static final Pattern BLOCK = Pattern.compile("(?s)```java\n(.*?)```");
    private static final Pattern ANSWER = Pattern.compile("^(\\s*(?:int \\w+ = )?)(.*?);\\s*// (-?\\d+): .*$");
    private static final Pattern ROW = Pattern.compile("(?m)^\\| (.*?) \\| (.*?) \\|(?: (.*?) \\|)?$");
    private static final Pattern CODE = Pattern.compile("`([^`\n]+)`");

    private static String readme;

    public static void main(String[] args) throws Exception {
        readme = Files.readString(Path.of("README.md"));
        examples();
        calls();
        refusals();
        tests();
        classes();
        files();
        Check.finish();
    }

    private static void examples() throws Exception {
        Matcher block = BLOCK.matcher(readme);
        int blocks = 0;
        while (block.find()) {
            blocks++;
            for (String[] told : run(block.group(1))) {
                Check.due("README.md: " + told[0], Long.parseLong(told[1]), Long.parseLong(told[2]));
            }
        }
        Check.due("how many examples", blocks, 3);
    }

    /** Runs an example as a program of its own, and gives each call with its answer and the one that stands behind it. */
    private static List<String[]> run(String example) throws Exception {
        Path out = Files.createTempDirectory("readme");
        try {
            Path source = out.resolve("Example.java");
            Files.writeString(source, program(example));
            int failed = ToolProvider.getSystemJavaCompiler().run(null, null, null, "-d", out.toString(), "-cp",
                System.getProperty("java.class.path"), source.toString());
            Check.due("an example compiles", failed, 0);
            if (failed != 0) {
                return List.of();
            }
            try (URLClassLoader loader = new URLClassLoader(new URL[] {out.toUri().toURL()})) {
                List<String[]> answers = new ArrayList<>();
                loader.loadClass("Example").getMethod("run", List.class).invoke(null, answers);
                return answers;
            }
        } finally {
            delete(out);
        }
    }

    private static String program(String example) {
        StringBuilder program = new StringBuilder("import java.util.List;\npublic final class Example {\n"
            + "    static int told(List<String[]> allTold, String call, int got, int want) {\n"
            + "        allTold.add(new String[] {call, Integer.toString(got), Integer.toString(want)});\n"
            + "        return got;\n    }\n"
            + "    public static void run(List<String[]> allTold) {\n");
        for (String line : example.split("\n")) {
            Matcher answer = ANSWER.matcher(line);
            boolean told = answer.matches();
            Check.that("a number behind // in '" + line + "'", told || !line.contains("//"));
            program.append(told ? answer.group(1) + "told(allTold, \"" + answer.group(2) + "\", " + answer.group(2)
                + ", " + answer.group(3) + ");" : line).append('\n');
        }
        return program.append("    }\n}\n").toString();
    }

    private static void delete(Path out) throws Exception {
        try (Stream<Path> files = Files.list(out)) {
            for (Path file : files.collect(Collectors.toList())) {
                Files.delete(file);
            }
        }
        Files.delete(out);
    }

    /** The part of README.md under a heading. */
    private static String under(String heading) {
        int from = readme.indexOf("\n" + heading + "\n");
        Check.that("README.md has '" + heading + "'", from >= 0);
        int start = Math.max(0, from) + heading.length() + 2;
        int to = readme.indexOf("\n#", start);
        return readme.substring(start, to < 0 ? readme.length() : to);
    }

    private static List<String> codes(String text) {
        return CODE.matcher(text).results().map(found -> found.group(1)).collect(Collectors.toList());
    }

    /** Each call of the face stands once, beside the number that its promise has in the document. */
    private static void calls() throws Exception {
        String doc = Files.readString(Path.of("../shared/DOC.md"));
        List<String> named = new ArrayList<>();
        Matcher row = ROW.matcher(under("### The calls"));
        while (row.find()) {
            Set<Integer> promises = numbers(row.group(3));
            Set<Integer> want = new TreeSet<>();
            for (String call : codes(row.group(2))) {
                named.add(call);
                Matcher promise = Pattern.compile("## Promise (\\d+): " + call + "\n").matcher(doc);
                want.add(promise.find() ? Integer.parseInt(promise.group(1)) : 0);
            }
            Check.that("the promises of " + row.group(2) + " are " + want, row.group(2).equals("Calls")
                || row.group(2).startsWith("-") || promises.equals(want));
        }
        List<String> face = Arrays.stream(TruthRope.class.getDeclaredMethods())
            .filter(method -> Modifier.isPublic(method.getModifiers())).map(Method::getName).sorted()
            .collect(Collectors.toList());
        Check.that("each call stands once in README.md", face.equals(named.stream().sorted().collect(Collectors.toList())));
    }

    /** "4 to 6", "2, 3", or "1 and 4 to 12". */
    private static Set<Integer> numbers(String text) {
        Set<Integer> numbers = new TreeSet<>();
        Matcher part = Pattern.compile("(\\d+)(?: to (\\d+))?").matcher(text == null ? "" : text);
        while (part.find()) {
            int from = Integer.parseInt(part.group(1));
            int to = part.group(2) == null ? from : Integer.parseInt(part.group(2));
            for (int i = from; i <= to; i++) {
                numbers.add(i);
            }
        }
        return numbers;
    }

    /** Each number that the document refuses by stands in the table, with the document's words where it has some. */
    private static void refusals() throws Exception {
        String doc = Files.readString(Path.of("../shared/DOC.md"));
        String table = under("### What answers mean");
        Matcher refused = Pattern.compile("(?m)(-1[1-5]) ([^,.;\n]+)[,.]").matcher(doc.substring(doc.indexOf("## Terms"),
            doc.indexOf("======== 1")));
        int found = 0;
        while (refused.find()) {
            found++;
            Check.that(refused.group(), table.contains("| " + refused.group(1) + " | " + refused.group(2) + " |"));
        }
        Check.due("what the host refuses", found, 5);
        Check.that("BAD", table.contains("| " + TruthRope.BAD + " `BAD` |"));
        Check.that("FULL", table.contains("| " + TruthRope.FULL + " `FULL` |"));
        Check.that("NONE", table.contains("| " + TruthRope.NONE + " `NONE` |"));
        Check.that("a ROW that isn't", table.contains("| " + new TruthRope().row(0, 0) + " |"));
        Check.that("how many calls an object is for", table.contains("512 calls") && doc.contains("512 calls"));
    }

    /** The table has just the tests that .ci/run finds; those by hand have the promises at their head, all 44 of them. */
    private static void tests() throws Exception {
        Set<String> named = new TreeSet<>();
        Set<Integer> byHand = new TreeSet<>();
        Matcher row = ROW.matcher(under("## Tests"));
        while (row.find()) {
            List<String> test = codes(row.group(1));
            named.addAll(test);
            if (row.group(2).endsWith("by hand")) {
                String words = row.group(2).replace(", by hand", "");
                String source = Files.readString(Path.of("src/test/java", test.get(0) + ".java"));
                Check.that(test + " has '" + words + "' at its head", source.contains("/** P" + words.substring(1) + ":"));
                byHand.addAll(numbers(words));
            }
        }
        Set<String> here = new TreeSet<>();
        try (Stream<Path> files = Files.list(Path.of("src/test/java"))) {
            files.map(file -> file.getFileName().toString()).filter(name -> name.endsWith("Test.java"))
                .forEach(name -> here.add(name.replace(".java", "")));
        }
        Check.that("the tests are " + here, named.equals(here));
        Check.due("promises that are tested by hand", byHand.size(), 44);
    }

    private static void classes() {
        Set<String> named = new TreeSet<>();
        for (String line : under("## Where things stand in the class").split("\n")) {
            if (line.startsWith("- `")) {
                named.add(codes(line).get(0));
            }
        }
        Set<String> here = new TreeSet<>(Set.of("TruthRope"));
        for (Class<?> inside : TruthRope.class.getDeclaredClasses()) {
            here.add(inside.getSimpleName());
        }
        Check.that("the classes are " + here, named.equals(here));
    }

    private static void files() {
        int found = 0;
        for (String name : codes(readme)) {
            if (name.contains("/")) {
                found++;
                Check.that(name + " is there", Files.exists(Path.of(name)));
            }
        }
        Check.that("README.md names files", found > 4);
        Check.that(".ci/run can be run", readme.contains("\n    .ci/run\n") && Files.isExecutable(Path.of(".ci/run")));
    }
}
