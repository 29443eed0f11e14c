/** Promises 13 to 17: steps, steps by draws, luck, and what the state is then. */
public final class StepsTest {
    public static void main(String[] args) {
        steps();
        restingOnes();
        seeds();
        stepsByDraws();
        luck();
        states();
        held();
        Check.finish();
    }

    private static void steps() {
        TruthRope x = new TruthRope();
        x.walker(1, 0);
        x.walker(3, 0);
        x.walker(0, 1);
        Check.due("13: steps(0)", x.steps(0), TruthRope.BAD);
        Check.due("13: steps(61)", x.steps(61), TruthRope.BAD);
        Check.due("13: steps(-1)", x.steps(-1), TruthRope.BAD);
        Check.due("13: no step was made", x.state(0), 0);
        Check.due("13: steps(1)", x.steps(1), 0);
        Check.due("13: the clown", x.of(0, 2), 2);
        Check.due("13: the jester at an even step", x.of(1, 2), 3);
        Check.due("13: one that bears too little falls", x.of(2, 5), 1);
        Check.due("13: and stays", x.of(2, 2), 0);
        x.steps(1);
        Check.due("13: the jester at an odd step", x.of(1, 2), 5);
        Check.due("13: steps(6)", x.steps(6), 1);
        Check.due("13: the jester is held to 20", x.of(1, 2), 20);
        Check.due("13: steps(60)", x.steps(60), 2);
        Check.due("13: STEP", x.state(0), 68);
    }

    private static void restingOnes() {
        TruthRope x = new TruthRope();
        x.walker(5, 0);
        x.stand(0, 20);
        Check.due("13: one across doesn't fall", x.steps(1), 1);
        Check.due("13: though it bears nothing", x.of(0, 5), 0);
        x.stand(0, 9);
        x.steps(1);
        Check.due("13: nine steps on nothing, and a tenth", x.of(0, 2), 10);
        x.steps(1);
        Check.due("13: and then it falls", x.of(0, 5) * 100 + x.of(0, 2), 110);
        x.mind(0, 2, 0);
        x.steps(1);
        Check.due("13: one that has fallen stays where it is", x.of(0, 5) * 100 + x.of(0, 2), 110);
        x.mind(0, 1, 0);
        x.stand(0, 19);
        x.steps(1);
        Check.due("13: 20 at most", x.of(0, 2), 20);
        TruthRope y = new TruthRope();
        y.walker(2, 16);
        y.walker(2, 17);
        y.steps(1);
        Check.due("13: as much as it weighs is enough", y.of(0, 2), 1);
        Check.due("13: one less is not", y.of(1, 5), 1);
    }

    private static void seeds() {
        TruthRope x = new TruthRope();
        Check.due("14: z at first", x.seed(-77), 1);
        Check.due("14: z then", x.seed(Integer.MIN_VALUE), -77);
        Check.due("14: any int", x.seed(0), Integer.MIN_VALUE);
    }

    private static int drawn(int z) {
        return z * 1103515245 + 12345;
    }

    private static void stepsByDraws() {
        for (int seed : new int[] {1, 2, 99, -5, 123456789, Integer.MIN_VALUE}) {
            for (int doubt : new int[] {0, 20, 50, 99}) {
                TruthRope x = new TruthRope();
                x.walker(0, 8);
                x.say(0, 3, 0);
                x.fact(0, 1);
                x.set(1, 0);
                x.set(3, doubt);
                x.seed(seed);
                int first = drawn(seed);
                int second = drawn(first);
                int turned = (second >>> 16) % 100 < doubt ? 1 << (first >>> 16) % 8 : 0;
                int facts = 1 ^ turned;
                Check.due("15: step()", x.step(), 0);
                Check.due("15: the facts", x.state(3), facts);
                Check.due("15: the fact is turned before the step", x.of(0, 5), (facts & 3) == 0 ? 1 : 0);
                Check.due("15: STEP", x.state(0), 1);
                Check.due("15: z", x.seed(0), second);
            }
        }
        for (int seed = 0; seed < 50; seed++) {
            int left = (drawn(drawn(seed)) >>> 16) % 100;
            TruthRope even = new TruthRope();
            even.set(3, left);
            even.seed(seed);
            even.step();
            Check.due("15: just DOUBT is not below it, seed " + seed, even.many(3), 0);
            if (left < 99) {
                TruthRope below = new TruthRope();
                below.set(3, left + 1);
                below.seed(seed);
                below.step();
                Check.due("15: one less is, seed " + seed, below.state(3), 1 << (drawn(seed) >>> 16) % 8);
            }
        }
        TruthRope y = new TruthRope();
        y.walker(0, 0);
        y.stand(0, 19);
        Check.due("15: how many are across", y.step(), 1);
    }

    private static void luck() {
        TruthRope x = new TruthRope();
        x.walker(0, 64);
        x.say(0, 255, 0);
        for (int fact = 0; fact < 8; fact++) {
            x.fact(fact, 1);
        }
        x.walker(0, 99);
        x.walker(0, 50);
        x.stand(2, 4);
        x.set(3, 40);
        int z = 1;
        int want = 0;
        for (int i = 0; i < 30; i++) {
            z = drawn(drawn(z));
            want += (z >>> 16) % 100 < 40 ? 1 : 0;
        }
        String before = Check.picture(x);
        Check.that("16: this run has some luck and some none", want > 0 && want < 30);
        Check.due("16: luck(30)", x.luck(30), want);
        Check.that("16: nothing changed, z neither", before.equals(Check.picture(x)));
        Check.due("16: the same again", x.luck(30), want);
        z = 1;
        want = 0;
        for (int n = 1; n <= 30; n++) {
            z = drawn(drawn(z));
            want += (z >>> 16) % 100 < 40 ? 1 : 0;
            Check.due("16: luck(" + n + ")", x.luck(n), want);
        }
        x.set(3, 0);
        Check.due("16: without doubt", x.luck(30), 0);
        x.set(3, 99);
        x.mind(0, 0, 99);
        Check.due("16: who falls in any case counts nothing", x.luck(30), 0);
        Check.due("16: luck(0)", x.luck(0), TruthRope.BAD);
        Check.due("16: luck(31)", x.luck(31), TruthRope.BAD);
        Check.due("16: luck(-1)", x.luck(-1), TruthRope.BAD);
        Check.due("16: without walkers", new TruthRope().luck(1), 0);
    }

    private static void states() {
        TruthRope x = new TruthRope();
        x.walker(0, 0);
        x.walker(0, 9);
        x.walker(0, 0);
        x.stand(0, 20);
        x.stand(1, 7);
        x.stand(2, 20);
        x.fact(6, 1);
        x.steps(3);
        int[] want = {3, 5, 2, 64, 47, 3};
        for (int what = 0; what <= 5; what++) {
            Check.due("17: state(" + what + ")", x.state(what), want[what]);
        }
        Check.due("17: state(6)", x.state(6), TruthRope.BAD);
        Check.due("17: state(-1)", x.state(-1), TruthRope.BAD);
    }

    private static void held() {
        TruthRope x = new TruthRope();
        int[][] sayings = {{1, 2}, {2, 0}, {4, 1}, {8, 0}, {0, 8}, {0, 0}, {2, 4}, {16, 1}};
        int[] want = {1, 1, 2, 3, 3, 4, 4, 5};
        for (int i = 0; i < 8; i++) {
            x.walker(0, 0);
            x.say(i, sayings[i][0], sayings[i][1]);
            Check.due("17: held of " + (i + 1), x.state(5), want[i]);
        }
    }
}
