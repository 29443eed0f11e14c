/** Promises 30 to 33: ROWS, and who judges them. */
public final class RowsTest {
    public static void main(String[] args) {
        rows();
        wrongNumbers();
        judging();
        Check.finish();
    }

    /** A thinker that falls at its third step beside a clown that comes across at its second. */
    private static TruthRope twoOnTheRope() {
        TruthRope x = new TruthRope();
        x.walker(5, 60);
        x.stand(0, 2);
        x.walker(1, 0);
        x.stand(1, 16);
        return x;
    }

    private static void rows() {
        TruthRope x = twoOnTheRope();
        Check.due("30: how many", x.prove(0, 4), 4);
        Check.due("42: rows", x.many(4), 4);
        int[][] want = {{3, 0, 0}, {4, 0, 1}, {4, 1, 1}, {4, 1, 1}};
        for (int i = 0; i < 4; i++) {
            for (int what = 0; what < 3; what++) {
                Check.due("31: row(" + i + ", " + what + ")", x.row(i, what), want[i][what]);
            }
        }
        Check.due("31: row(4, 0)", x.row(4, 0), -9);
        Check.due("30: they are tried", x.state(0), 0);
        Check.due("30: nobody moved", x.of(0, 2), 2);
        Check.due("30: ten", x.prove(1, 10), 10);
        Check.due("31: the clown's first", x.row(0, 0), 18);
        Check.due("31: the clown's tenth", x.row(9, 0), 20);
        Check.due("30: one", x.prove(1, 1), 1);
        Check.due("31: fewer than before", x.row(1, 0), -9);
    }

    private static void wrongNumbers() {
        TruthRope x = twoOnTheRope();
        Check.due("30: n 0", x.prove(0, 0), TruthRope.BAD);
        Check.due("30: n 11", x.prove(0, 11), TruthRope.BAD);
        Check.due("30: no such one", x.prove(2, 1), TruthRope.BAD);
        Check.due("31: no rows yet", x.row(0, 0), -9);
        x.prove(0, 2);
        Check.due("30: refused", x.prove(-1, 5), TruthRope.BAD);
        Check.due("30: the rows stay", x.many(4), 2);
        int[][] none = {{-1, 0}, {2, 0}, {0, -1}, {0, 3}, {Integer.MAX_VALUE, 0}, {Integer.MIN_VALUE, 0}};
        for (int[] w : none) {
            Check.due("31: row(" + w[0] + ", " + w[1] + ")", x.row(w[0], w[1]), -9);
            Check.due("32: alterRow(" + w[0] + ", " + w[1] + ", 1)", x.alterRow(w[0], w[1], 1), -9);
        }
        Check.due("32: what it was", x.alterRow(1, 0, -77), 4);
        Check.due("32: what it is", x.row(1, 0), -77);
        Check.due("32: back again", x.alterRow(1, 0, 4), -77);
        Check.due("32: the others stay", x.row(1, 1) * 100 + x.row(1, 2), 1);
    }

    private static void judging() {
        TruthRope x = twoOnTheRope();
        Check.due("33: no rows", x.judge(0), 0);
        Check.due("33: no such one", x.judge(2), TruthRope.BAD);
        Check.due("33: no such one either", x.judge(-1), TruthRope.BAD);
        x.prove(0, 10);
        Check.due("33: all is right", x.judge(0), 0);
        Check.due("33: not those of the other", x.judge(1), 1);
        for (int i = 9; i >= 0; i--) {
            for (int what = 0; what < 3; what++) {
                int was = x.alterRow(i, what, 7);
                Check.due("33: row " + i + " is wrong in " + what, x.judge(0), i + 1);
                x.alterRow(i, what, was);
                Check.due("33: right again", x.judge(0), 0);
            }
        }
        x.alterRow(3, 0, 9);
        x.alterRow(7, 0, 9);
        Check.due("33: the first that is wrong", x.judge(0), 4);
        x.prove(0, 10);
        x.fact(0, 1);
        Check.due("33: a fact of which none says anything", x.judge(0), 0);
        x.mind(1, 0, 0);
        Check.due("33: how many are across counts", x.judge(0), 2);
        x.mind(1, 1, 0);
        x.steps(1);
        Check.due("33: from how it is now", x.judge(0), 1);
    }
}
