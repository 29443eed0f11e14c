import java.io.File;
import java.io.OutputStream;
import java.io.PrintStream;
import java.lang.reflect.Field;
import java.lang.reflect.InvocationTargetException;
import java.lang.reflect.Method;
import java.net.URL;
import java.net.URLClassLoader;
import java.nio.file.Files;
import java.nio.file.Path;
import java.util.ArrayList;
import java.util.LinkedHashMap;
import java.util.List;
import java.util.Map;
import java.util.Set;
import java.util.TreeSet;
import java.util.regex.Matcher;
import java.util.regex.Pattern;
import java.util.stream.Collectors;
import java.util.stream.Stream;
import javax.tools.ToolProvider;

/**
 * Promises 1 to 44, each broken in turn in a changed copy of the class: some test of the project must notice. The
 * breaks are put around the calls and know nothing of what stands inside them, so they hold for any writing of it.
 */
public final class BreaksTest {
    /** The others look at the source or at its face, which the changed copy doesn't have as it must be. */
    private static final List<String> NOTICING = List.of("CircusByCallsTest", "TapeTest", "StepsTest", "TriedTest",
        "OddsTest", "RowsTest", "SheetsTest", "ActsTest", "KeepTest", "EdgesTest", "ModelTest");
    private static final String[] MODEL_RUNS = {"60", "0"};

    private static final Set<String> CHANGING = Set.of("feed", "circus", "set", "fact", "walker", "mind", "say", "stand",
        "steps", "seed", "step", "prove", "alterRow", "minds", "sheet", "put", "shelf", "act", "keep", "again");

    private static final Pattern CALL = Pattern.compile("(?m)^    public (int|long) (\\w+)\\((.*)\\) \\{$");
    private static final Pattern NEW = Pattern.compile("(?m)^    public TruthRope\\(\\) \\{$");
    private static final Pattern PROMISE = Pattern.compile("(?s)## Promise (\\d+): (\\w+)[^\n]*\n(.*?)(?=\n## )");
    private static final Pattern REFUSAL = Pattern.compile("BAD|FULL|NONE|-9\\b|-1[1-5]\\b");

    /** One way in which one promise doesn't hold; the number is that of the refusal that is another one, or 0. */
    private record Break(int promise, String call, Broken.Way way, int number, Set<Integer> refusals) {
        @Override public String toString() {
            return promise + ": " + call + " " + way + (number == Broken.NO_NUMBER ? "" : " (" + number + ")");
        }
    }

    public static void main(String[] args) throws Exception {
        Path out = Files.createTempDirectory("breaks");
        try {
            compile(out);
            List<Break> breaks = breaks();
            Map<Break, String> noticed = whoNotices(breaks, out);
            for (Break one : breaks) {
                Check.that(one + " is noticed by a test", !noticed.get(one).isEmpty());
            }
            Check.due("how many promises were broken", breaks.stream().map(Break::promise).distinct().count(), 44);
            Break none = new Break(0, "", Broken.Way.NONE, Broken.NO_NUMBER, Set.of());
            Check.that("without a break the changed copy passes", whoNotices(List.of(none), out).get(none).isEmpty());
        } finally {
            delete(out);
        }
        Check.finish();
    }

    private static List<Break> breaks() throws Exception {
        List<Break> breaks = new ArrayList<>();
        Matcher promise = PROMISE.matcher(Files.readString(Path.of("../shared/DOC.md")));
        while (promise.find()) {
            int number = Integer.parseInt(promise.group(1));
            if (number == 1) {
                breaks.add(new Break(1, "new", Broken.Way.IS_NOT_NEW, Broken.NO_NUMBER, Set.of()));
                breaks.add(new Break(1, "new", Broken.Way.IS_KEPT_WHEN_NEW, Broken.NO_NUMBER, Set.of()));
            } else {
                breaksOf(number, promise.group(2), refusals(promise.group(2), promise.group(3)), breaks);
            }
        }
        return breaks;
    }

    private static void breaksOf(int promise, String call, Set<Integer> refusals, List<Break> breaks) {
        breaks.add(new Break(promise, call, Broken.Way.ANSWERS_ONE_MORE, Broken.NO_NUMBER, refusals));
        breaks.add(new Break(promise, call, Broken.Way.CHANGES_MORE, Broken.NO_NUMBER, refusals));
        if (CHANGING.contains(call)) {
            breaks.add(new Break(promise, call, Broken.Way.DOES_NOTHING, Broken.NO_NUMBER, refusals));
        }
        for (int refusal : refusals) {
            breaks.add(new Break(promise, call, Broken.Way.REFUSES_BY_ANOTHER_NUMBER, refusal, refusals));
        }
        if (!refusals.isEmpty()) {
            breaks.add(new Break(promise, call, Broken.Way.CHANGES_WHEN_REFUSED, Broken.NO_NUMBER, refusals));
        }
    }

    /** As the promise names them, but for three that it doesn't: a FAULT, a parting by 0, and what no calls can reach. */
    private static Set<Integer> refusals(String call, String words) {
        if (call.equals("circus")) {
            return Set.of(Broken.NO_NUMBER);
        }
        Set<Integer> refusals = new TreeSet<>();
        if (call.equals("act")) {
            refusals.add(-15);
        }
        Matcher named = REFUSAL.matcher(words);
        while (named.find() && !call.equals("end")) {
            switch (named.group()) {
                case "BAD": refusals.add(TruthRope.BAD); break;
                case "FULL": refusals.add(TruthRope.FULL); break;
                case "NONE": refusals.add(TruthRope.NONE); break;
                default: refusals.add(Integer.parseInt(named.group()));
            }
        }
        return refusals;
    }

    private static void compile(Path out) throws Exception {
        String source = Files.readString(Path.of("src/main/java/TruthRope.java"));
        Check.due("how many calls are changed", CALL.matcher(source).results().count(), 43);
        Check.due("and the constructor", NEW.matcher(source).results().count(), 1);
        Path changed = out.resolve("TruthRope.java");
        Files.writeString(changed, CALL.matcher(NEW.matcher(source).replaceAll(BreaksTest::aroundNew))
            .replaceAll(BreaksTest::aroundCall));
        int failed = ToolProvider.getSystemJavaCompiler().run(null, null, null, "-d", out.toString(), "-cp",
            System.getProperty("java.class.path"), changed.toString());
        Check.due("the changed copy compiles", failed, 0);
    }

    private static String aroundNew(java.util.regex.MatchResult found) {
        return found.group() + "\n"
            + "        if (Broken.is(\"new\", Broken.Way.IS_NOT_NEW)) {\n            walkerUnbroken(0, 0);\n        }\n"
            + "        if (Broken.is(\"new\", Broken.Way.IS_KEPT_WHEN_NEW)) {\n            keepUnbroken();\n        }\n";
    }

    private static String aroundCall(java.util.regex.MatchResult found) {
        String type = found.group(1);
        String name = found.group(2);
        String numbers = found.group(3).replaceAll("(int|long) ", "");
        return found.group() + "\n"
            + "        long answer = Broken.on(\"" + name + "\", this)." + name + "Unbroken(" + numbers + ");\n"
            + "        if (Broken.changesMore(\"" + name + "\", answer)) {\n"
            + "            seedUnbroken(seedUnbroken(0) + 1);\n"
            + "        }\n"
            + "        return (" + type + ") Broken.answer(\"" + name + "\", answer);\n"
            + "    }\n\n"
            + "    private " + type + " " + name + "Unbroken(" + found.group(3) + ") {";
    }

    /** For each break the first test that notices it, or an empty text. */
    private static Map<Break, String> whoNotices(List<Break> breaks, Path out) {
        PrintStream shown = System.out;
        System.setOut(new PrintStream(OutputStream.nullOutputStream()));
        try {
            return breaks.parallelStream().collect(Collectors.toMap(one -> one, one -> whoNotices(one, out),
                (one, other) -> one, LinkedHashMap::new));
        } finally {
            System.setOut(shown);
        }
    }

    private static String whoNotices(Break one, Path out) {
        try (URLClassLoader loader = loader(out)) {
            Method set = loader.loadClass("Broken").getDeclaredMethod("set", String.class, String.class, int.class, Set.class);
            set.setAccessible(true);
            set.invoke(null, one.call(), one.way().name(), one.number(), one.refusals());
            Field stops = loader.loadClass("Check").getDeclaredField("stopsAtFirst");
            stops.setAccessible(true);
            stops.setBoolean(null, true);
            for (String test : NOTICING) {
                if (notices(loader.loadClass(test), test.equals("ModelTest") ? MODEL_RUNS : new String[0])) {
                    return test;
                }
            }
            return "";
        } catch (Exception e) {
            throw new IllegalStateException(one.toString(), e);
        }
    }

    /** Only a wrong answer counts: anything else that is thrown is a fault of the break, not seen by the test. */
    private static boolean notices(Class<?> test, String[] args) throws Exception {
        try {
            test.getMethod("main", String[].class).invoke(null, (Object) args);
            return false;
        } catch (InvocationTargetException thrown) {
            if (thrown.getCause() instanceof AssertionError) {
                return true;
            }
            throw thrown;
        }
    }

    /** The changed copy stands before the class itself, and each loader has its own of all of them. */
    private static URLClassLoader loader(Path out) throws Exception {
        List<URL> urls = new ArrayList<>();
        urls.add(out.toUri().toURL());
        for (String path : System.getProperty("java.class.path").split(File.pathSeparator)) {
            urls.add(Path.of(path).toUri().toURL());
        }
        return new URLClassLoader(urls.toArray(new URL[0]), ClassLoader.getPlatformClassLoader());
    }

    private static void delete(Path out) throws Exception {
        try (Stream<Path> files = Files.list(out)) {
            for (Path file : files.collect(Collectors.toList())) {
                Files.delete(file);
            }
        }
        Files.delete(out);
    }
}
