/** Promises 42 to 44: how many there are of what, and circuses kept. */
public final class KeepTest {
    public static void main(String[] args) {
        counts();
        keeping();
        whatIsNotKept();
        Check.finish();
    }

    private static void counts() {
        TruthRope x = new TruthRope();
        x.walker(0, 0);
        x.walker(1, 9);
        x.walker(2, 0);
        x.stand(0, 20);
        x.fact(2, 1);
        x.fact(5, 1);
        x.steps(1);
        x.prove(2, 6);
        x.feed(0, 7);
        x.shelf(0, 0, 2);
        x.act(0, 1, 1);
        int[] want = {3, 1, 1, 2, 6, 7, 3};
        for (int what = 0; what <= 6; what++) {
            Check.due("42: many(" + what + ")", x.many(what), want[what]);
        }
        Check.due("42: many(7)", x.many(7), TruthRope.BAD);
        Check.due("42: many(-1)", x.many(-1), TruthRope.BAD);
    }

    private static void keeping() {
        TruthRope x = new TruthRope();
        Check.due("44: nothing is kept", x.again(), TruthRope.NONE);
        Check.circus(x, "walker weight 5 at 3 says 3 denies 4;jester weight 0 at 11;thinker weight 99;fact 0;plank 4;but 1;wit 9;doubt 3;");
        x.steps(1);
        x.seed(321);
        String before = Check.picture(x);
        Check.due("43: keep()", x.keep(), 1);
        for (int round = 0; round < 2; round++) {
            x.mind(0, 5, 77);
            x.say(0, 8, 16);
            x.stand(2, 9);
            x.walker(4, 4);
            x.fact(0, 0);
            x.fact(7, 1);
            x.set(0, 1);
            x.set(1, 2);
            x.set(2, 3);
            x.set(3, 4);
            x.step();
            Check.due("44: again()", x.again(), 3);
            Check.that("44: all is as kept, and that stays", before.equals(Check.picture(x)));
        }
        Check.circus(x, "walker;");
        Check.due("44: over a circus told", x.again(), 3);
        Check.that("44: all as kept", before.equals(Check.picture(x)));
        x.walker(0, 0);
        x.keep();
        x.walker(0, 0);
        Check.due("44: the latest", x.again(), 4);
        TruthRope y = new TruthRope();
        y.keep();
        y.walker(0, 0);
        Check.due("44: none kept is something", y.again(), 0);
        Check.due("44: none then", y.many(0), 0);
    }

    private static void whatIsNotKept() {
        TruthRope x = new TruthRope();
        x.walker(0, 0);
        x.keep();
        x.walker(2, 0);
        x.feed(0x20, 1);
        x.prove(0, 3);
        x.sheet(1, 2, 4);
        x.put(1, 1, 8);
        x.shelf(0, 1, 1);
        x.shelf(1, 0, 1);
        x.act(1, 0, 1);
        x.again();
        Check.due("43: the tape", x.many(5), 1);
        Check.due("43: rows", x.many(4), 3);
        Check.due("43: sheets", x.item(1, 2, 1), 8);
        Check.due("43: shelves", x.taken(0, 12), 4);
        Check.due("43: a shelf of one that is gone", x.taken(1, 0), -11);
        Check.due("43: the trace", x.many(6), 2);
    }
}
