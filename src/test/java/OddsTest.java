import java.math.BigInteger;

/** Promises 28 and 29: odds of doubts, and how many there are on average. */
public final class OddsTest {
    public static void main(String[] args) {
        odds();
        hopes();
        wrongNumbers();
        Check.finish();
    }

    private static void odds() {
        for (int doubt : new int[] {0, 1, 20, 33, 50, 75, 99}) {
            TruthRope x = new TruthRope();
            x.set(3, doubt);
            for (int n = 0; n <= 8; n++) {
                for (int k = 0; k <= n; k++) {
                    BigInteger ways = BigInteger.ONE;
                    for (int i = 0; i < k; i++) {
                        ways = ways.multiply(BigInteger.valueOf(n - i)).divide(BigInteger.valueOf(i + 1));
                    }
                    BigInteger above = ways.multiply(BigInteger.valueOf(doubt).pow(k))
                        .multiply(BigInteger.valueOf(100 - doubt).pow(n - k));
                    fraction("28: odds of " + doubt + " by " + n + ", " + k,
                        x.odds(n, k, 0), x.odds(n, k, 1), above, BigInteger.valueOf(100).pow(n));
                }
            }
        }
        TruthRope x = new TruthRope();
        Check.due("28: one of one", x.odds(1, 1, 0) * 100 + x.odds(1, 1, 1), 105);
        Check.due("28: none of none", x.odds(0, 0, 0) * 100 + x.odds(0, 0, 1), 101);
        x.set(3, 0);
        Check.due("28: 0 is 0 by 1", x.odds(8, 8, 0) * 100 + x.odds(8, 8, 1), 1);
    }

    private static void hopes() {
        for (int doubt : new int[] {0, 1, 20, 64, 99}) {
            TruthRope x = new TruthRope();
            x.set(3, doubt);
            for (int n = 0; n <= 99; n++) {
                fraction("29: hope of " + doubt + " by " + n, x.hope(n, 0), x.hope(n, 1),
                    BigInteger.valueOf(n * doubt), BigInteger.valueOf(100));
            }
        }
        TruthRope x = new TruthRope();
        Check.due("29: hope by 7", x.hope(7, 0) * 100 + x.hope(7, 1), 705);
        Check.due("29: hope by 0", x.hope(0, 0) * 100 + x.hope(0, 1), 1);
    }

    private static void fraction(String call, long above, long below, BigInteger wantAbove, BigInteger wantBelow) {
        BigInteger common = wantAbove.gcd(wantBelow);
        Check.due(call + ", above", above, wantAbove.divide(common).longValueExact());
        Check.due(call + ", below", below, wantBelow.divide(common).longValueExact());
    }

    private static void wrongNumbers() {
        TruthRope x = new TruthRope();
        int[][] wrong = {{-1, 0, 0}, {9, 0, 0}, {3, -1, 0}, {3, 4, 0}, {3, 1, 2}, {3, 1, -1}, {-1, -1, 0}};
        for (int[] w : wrong) {
            Check.due("28: odds(" + w[0] + ", " + w[1] + ", " + w[2] + ")", x.odds(w[0], w[1], w[2]), TruthRope.BAD);
        }
        Check.due("29: n -1", x.hope(-1, 0), TruthRope.BAD);
        Check.due("29: n 100", x.hope(100, 1), TruthRope.BAD);
        Check.due("29: part 2", x.hope(1, 2), TruthRope.BAD);
        Check.due("29: part -1", x.hope(1, -1), TruthRope.BAD);
    }
}
