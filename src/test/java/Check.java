import java.nio.charset.StandardCharsets;

/** Counts the answers that are not the ones due, and ends a test with exit code 1 if there was one. */
final class Check {
    private static int looked = 0;
    private static int wrong = 0;

    /** For BreaksTest, which only wants to know whether a test notices, and must not be ended by it. */
    static boolean stopsAtFirst = false;

    private Check() {
    }

    static void due(String call, long got, long want) {
        looked++;
        if (got != want) {
            wrong++;
            if (stopsAtFirst) {
                throw new AssertionError(call);
            }
            System.out.println("  " + call + " answered " + got + ", due is " + want);
        }
    }

    static void that(String what, boolean holds) {
        due(what, holds ? 1 : 0, 1);
    }

    /** Puts a text on THE TAPE, eight bytes a call. */
    static int feed(TruthRope rope, String text) {
        byte[] bytes = text.getBytes(StandardCharsets.ISO_8859_1);
        int last = rope.many(5);
        for (int i = 0; i < bytes.length; i += 8) {
            int n = Math.min(8, bytes.length - i);
            long eight = 0;
            for (int j = n - 1; j >= 0; j--) {
                eight = eight << 8 | bytes[i + j] & 255;
            }
            last = rope.feed(eight, n);
        }
        return last;
    }

    static int circus(TruthRope rope, String text) {
        feed(rope, text);
        return rope.circus();
    }

    /** All that can be asked of a circus without changing it, in one text. */
    static String picture(TruthRope rope) {
        StringBuilder all = new StringBuilder();
        for (int what = 0; what <= 6; what++) {
            all.append(rope.many(what)).append(' ');
        }
        for (int what = 0; what <= 5; what++) {
            all.append(rope.state(what)).append(' ');
        }
        for (int law = 0; law < 4; law++) {
            all.append(rope.lawOf(law)).append(' ');
        }
        for (int i = 0; i < rope.many(0); i++) {
            for (int what = 0; what <= 5; what++) {
                all.append(rope.of(i, what)).append(' ');
            }
        }
        for (int i = 0; i < rope.many(4); i++) {
            for (int what = 0; what <= 2; what++) {
                all.append(rope.row(i, what)).append(' ');
            }
        }
        for (int i = 0; i < rope.many(6); i++) {
            all.append(rope.trace(i)).append(' ');
        }
        int z = rope.seed(0);
        rope.seed(z);
        return all.append(z).toString();
    }

    static void finish() {
        System.out.println("  " + looked + " answers looked at, " + wrong + " wrong");
        if (wrong != 0) {
            System.exit(1);
        }
    }
}
