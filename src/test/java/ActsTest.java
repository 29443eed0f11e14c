/** Promises 40 and 41: things of kinds with acts, and THE TRACE. */
public final class ActsTest {
    public static void main(String[] args) {
        bodiesOfEachKind();
        whatTheyAnswer();
        partedByZero();
        wrapping();
        nothingToAct();
        Check.finish();
    }

    /** Number n is of kind n and stands at n + 2, so that parting is by 2. */
    private static TruthRope oneOfEach() {
        TruthRope x = new TruthRope();
        for (int kind = 0; kind < 6; kind++) {
            x.walker(kind, 0);
            x.stand(kind, kind + 2);
        }
        return x;
    }

    private static void bodiesOfEachKind() {
        int[][][] want = {
            {{10}, {11, 10}, {12}, {13, 11, 10}},
            {{10}, {20, 11, 10}, {12}, {13, 20, 11, 10}},
            {{30, 10}, {11, 30, 10}, {12}, {31, 13, 11, 30, 10, 12}},
            {{51, 10}, {20, 11, 51, 10}, {50, 12}, {13, 20, 11, 51, 10}},
            {{40, 30, 10}, {41, 11, 40, 30, 10, 40, 30, 10}, {12},
                {31, 13, 41, 11, 40, 30, 10, 40, 30, 10, 12}},
            {{10}, {11, 10}, {61, 12, 10}, {60, 13, 11, 10}},
        };
        TruthRope x = oneOfEach();
        for (int kind = 0; kind < 6; kind++) {
            x.shelf(0, 0, kind);
            for (int act = 0; act < 4; act++) {
                x.act(0, act, 3);
                traced(x, "41: kind " + kind + ", act " + act, want[kind][act]);
            }
        }
    }

    private static void traced(TruthRope x, String call, int... want) {
        Check.due(call + ", how many", x.many(6), want.length);
        for (int i = 0; i < want.length; i++) {
            Check.due(call + ", body " + i, x.trace(i), want[i]);
        }
        Check.due(call + ", behind the last", x.trace(want.length), TruthRope.NONE);
        Check.due(call + ", before the first", x.trace(-1), TruthRope.NONE);
    }

    private static void whatTheyAnswer() {
        TruthRope x = oneOfEach();
        int[][] want = {
            {80, 82, 5, 82 ^ 110},
            {79, -82, 5, -82 ^ 110},
            {85, 89, 5, (89 ^ 110) - 1},
            {77 ^ 3, -((77 ^ 3) + 5), 7 - 3, -((77 ^ 3) + 5) ^ 110},
            {(76 + 7) * 2, 166 + 6 - 2 * (48 - 4 + 7), 5, (172 - 102 ^ 110) - 2},
            {75, 82, 5 + 35, (82 ^ 110) * 4},
        };
        for (int kind = 0; kind < 6; kind++) {
            x.shelf(3, 0, kind);
            for (int act = 0; act < 4; act++) {
                Check.due("40: kind " + kind + ", act " + act, x.act(3, act, 10), want[kind][act]);
            }
        }
        Check.due("40: cut towards 0", acted(x, 0, 2, -5), -2);
        x.stand(5, 3);
        Check.due("40: parted by -2", acted(x, 5, 2, 5), -2 + 35);
        x.mind(5, 1, 0);
        Check.due("40: of what kind it is now", acted(x, 5, 1, 10), -(75 + 3));
    }

    private static int acted(TruthRope x, int walker, int act, int x1) {
        x.shelf(3, 0, walker);
        return x.act(3, act, x1);
    }

    private static void partedByZero() {
        TruthRope x = oneOfEach();
        int[][] want = {{12}, {12}, {12}, {50, 12}, {12}, {61, 12}};
        for (int kind = 0; kind < 6; kind++) {
            x.stand(kind, kind);
            Check.due("40: parted by 0, kind " + kind, acted(x, kind, 2, 9), -15);
            traced(x, "41: parted by 0, kind " + kind, want[kind]);
        }
        Check.due("40: a child treads", acted(x, 2, 3, 9), -15);
        traced(x, "41: a child treads", 31, 13, 11, 30, 10, 12);
        Check.due("40: a saint treads", acted(x, 4, 3, 9), -15);
        traced(x, "41: a saint treads", 31, 13, 41, 11, 40, 30, 10, 40, 30, 10, 12);
        Check.due("40: a thinker treads without parting", acted(x, 5, 3, 10), ((75 + 5) ^ 110) * 4);
        Check.due("40: and leans", acted(x, 5, 0, 10), 75);
    }

    private static void wrapping() {
        TruthRope x = new TruthRope();
        x.walker(0, 0);
        x.walker(0, 0);
        Check.due("40: leans wraps", acted(x, 1, 0, Integer.MAX_VALUE), Integer.MAX_VALUE * 8 - 1);
        Check.due("40: the least int parted by -1", acted(x, 1, 2, Integer.MIN_VALUE), Integer.MIN_VALUE);
        x.mind(1, 3, 0);
        Check.due("40: x + 4 wraps", acted(x, 1, 2, Integer.MAX_VALUE), -(Integer.MAX_VALUE + 4) - 1);
    }

    private static void nothingToAct() {
        TruthRope x = oneOfEach();
        x.sheet(0, 0, 4);
        x.shelf(0, 0, 0);
        x.shelf(1, 1, 0);
        int[][] wrong = {{-1, 0}, {4, 0}, {0, -1}, {0, 4}, {2, 0}, {1, 0}};
        for (int[] w : wrong) {
            x.act(0, 3, 5);
            Check.due("41: a trace", x.many(6), 3);
            Check.due("40: act(" + w[0] + ", " + w[1] + ", 5)", x.act(w[0], w[1], 5), 0);
            Check.due("40: and no trace then", x.many(6), 0);
            Check.due("41: nor its first", x.trace(0), TruthRope.NONE);
        }
        x.shelf(0, 0, 5);
        Check.circus(x, "walker;");
        Check.due("40: its walker is gone", x.act(0, 0, 5), 0);
    }
}
