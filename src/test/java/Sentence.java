import java.nio.file.Files;
import java.nio.file.Path;
import java.util.function.Supplier;
import java.util.regex.Matcher;
import java.util.regex.Pattern;

/**
 * A sentence of the document, or a part of one, that names a boundary, in the document's own words: each answer that
 * shows it is looked at under these words, and words that the document doesn't have are a wrong answer, too.
 */
final class Sentence {
    interface Call {
        long on(TruthRope x);
    }

    interface CallWith {
        long on(TruthRope x, int v);
    }

    /** What of the document names a boundary: each of these must stand in some sentence that is looked at. */
    private static final Pattern BOUNDARY = Pattern.compile("BAD|FULL|NONE|-(9|100|1[1-5])\\b|\\d+ to (\\d+|n\\b)"
        + "|at most|at first|no such|there is none|missing|nothing|wrap|of several|cut|out of range|beyond|above"
        + "|below|held to|not so many|\\(also|also |first \\d+|less its|another what|stays|without");

    private static final String DOC = document();
    private static final boolean[] LOOKED_AT = new boolean[DOC.length()];

    private final String label;

    /** Where: "Terms", "1", "2" or "3" for the parts behind it, "Promise 7". */
    Sentence(String where, String words) {
        label = where + " '" + words + "'";
        int from = DOC.indexOf(heading(where));
        int to = DOC.indexOf(heading(next(where)), Math.max(0, from));
        int at = DOC.indexOf(words, Math.max(0, from));
        Check.that(label + " stands in the document", from >= 0 && to > from && at >= from && at < to);
        for (int i = Math.max(0, at); at >= 0 && i < at + words.length(); i++) {
            LOOKED_AT[i] = true;
        }
    }

    Sentence gives(String call, long got, long want) {
        Check.due(label + ": " + call, got, want);
        return this;
    }

    Sentence holds(String what, boolean so) {
        Check.that(label + ": " + what, so);
        return this;
    }

    /** For each number on a new busy circus. */
    Sentence givesEach(String call, int[] numbers, CallWith with, long want) {
        for (int v : numbers) {
            gives(call + ", by " + v, with.on(Busy.circus(), v), want);
        }
        return this;
    }

    Sentence refuses(String call, Call made, long want) {
        return refuses(Busy::circus, call, made, want);
    }

    Sentence refuses(Supplier<TruthRope> maker, String call, Call made, long want) {
        TruthRope x = maker.get();
        gives(call, made.on(x), want);
        String after = Busy.picture(x);
        return holds(call + " changed nothing", after.equals(Busy.picture(maker.get())));
    }

    Sentence refusesEach(String call, int[] numbers, CallWith with, long want) {
        return refusesEach(Busy::circus, call, numbers, with, want);
    }

    Sentence refusesEach(Supplier<TruthRope> maker, String call, int[] numbers, CallWith with, long want) {
        for (int v : numbers) {
            refuses(maker, call + ", by " + v, x -> with.on(x, v), want);
        }
        return this;
    }

    static int[] numbers(int... all) {
        return all;
    }

    /** The first numbers outside on both sides, those farthest out, and those that look right in their low bits. */
    static int[] outside(int least, int most) {
        return new int[] {least - 1, most + 1, Integer.MIN_VALUE, Integer.MAX_VALUE, least + 256, most + 65536,
            Integer.MIN_VALUE + least};
    }

    /** Says which boundary of the document no sentence that was looked at has. */
    static void allAreLookedAt() {
        int from = Math.max(0, DOC.indexOf(heading("Terms")));
        int to = DOC.indexOf(heading("end"), from);
        Matcher named = BOUNDARY.matcher(DOC);
        while (named.find()) {
            if (named.start() >= from && named.end() <= to) {
                String near = DOC.substring(Math.max(from, named.start() - 60), Math.min(to, named.end() + 40));
                Check.that("a test for '" + named.group() + "' in '.." + near + "..'",
                    LOOKED_AT[named.start()] && LOOKED_AT[named.end() - 1]);
            }
        }
    }

    private static String heading(String where) {
        switch (where) {
            case "Terms": return "## Terms ";
            case "1": return "======== 1 ";
            case "2": return "======== 2 ";
            case "3": return "======== 3 ";
            case "end": return "## Not promised ";
            default: return "## " + where + ": ";
        }
    }

    private static String next(String where) {
        switch (where) {
            case "Terms": return "1";
            case "1": return "2";
            case "2": return "3";
            case "3": return "Promise 1";
            case "Promise 44": return "end";
            default: return "Promise " + (Integer.parseInt(where.substring(8)) + 1);
        }
    }

    private static String document() {
        try {
            return Files.readString(Path.of("../shared/DOC.md")).replaceAll("```(text)?", " ").replaceAll("\\s+", " ");
        } catch (java.io.IOException e) {
            throw new java.io.UncheckedIOException(e);
        }
    }
}
