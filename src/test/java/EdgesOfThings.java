/** The boundaries that part 3 names: ROWS, ACTS of things, THE TRACE, SHEETS, SHELVES. */
final class EdgesOfThings {
    private static final int LEAST = Integer.MIN_VALUE, GREATEST = Integer.MAX_VALUE;

    private EdgesOfThings() {
    }

    static void look() {
        rows();
        theReader();
        actsThatWrap();
        partsCut();
        partedByZero();
        theTrace();
        thirty();
        sheets();
        shelves();
    }

    private static void rows() {
        Sentence s = new Sentence("3", "ROWS of one: (its PLACE, 1 if it has FALLEN, else 0, how many are ACROSS) behind"
            + " 1, 2, .. n STEPS, tried.");
        TruthRope x = new TruthRope();
        for (int i = 0; i < 8; i++) {
            x.walker(0, 0);
            x.stand(i, 12 + i);
        }
        s.gives("ten", x.prove(0, 10), 10);
        for (int i = 0; i < 10; i++) {
            s.gives("PLACE, behind " + (i + 1), x.row(i, 0), Math.min(20, 13 + i));
            s.gives("FALLEN, behind " + (i + 1), x.row(i, 1), 0);
            s.gives("ACROSS, behind " + (i + 1), x.row(i, 2), Math.min(8, i + 1));
        }
        s.gives("nobody went", x.of(0, 2), 12).gives("STEP stays", x.state(0), 0);
        x.mind(7, 0, 1);
        x.prove(7, 1);
        s.gives("one that falls, its PLACE", x.row(0, 0), 19)
            .gives("one that falls", x.row(0, 1), 1)
            .gives("one that falls, nobody ACROSS", x.row(0, 2), 0)
            .gives("nobody has FALLEN", x.state(2), 0);
        s.refuses(() -> proven(), "another circus' ROWS by the same numbers", y -> y.prove(0, 10) - 10, 0);
    }

    private static TruthRope proven() {
        TruthRope x = Busy.circus();
        x.prove(0, 10);
        return x;
    }

    private static void theReader() {
        Sentence s = new Sentence("3", "THE READER takes ROWS as those of one, from how it is now: right is one that is"
            + " as it must be.");
        TruthRope x = new TruthRope();
        x.walker(0, 0);
        x.walker(1, 0);
        x.prove(0, 10);
        s.gives("its own", x.judge(0), 0).gives("the other's", x.judge(1), 1);
        x.steps(1);
        s.gives("behind a STEP", x.judge(0), 1);
        x.stand(0, 0);
        s.gives("at its PLACE again, but the other comes ACROSS sooner", x.judge(0), 9);
        x.stand(1, 0);
        s.gives("as it was but for STEP", x.judge(0), 0);
    }

    private static TruthRope onShelf(int kind, int number, int place) {
        TruthRope x = new TruthRope();
        for (int i = 0; i <= number; i++) {
            x.walker(kind, 0);
        }
        x.stand(number, place);
        x.shelf(0, 0, number);
        return x;
    }

    /** As an int of Java's wrap, reckoned in longs. */
    private static int wrapped(long v) {
        return (int) (v & 0xffffffffL);
    }

    private static void actsThatWrap() {
        Sentence s = new Sentence("3", "ACTS of things, with a number x (ints that wrap): 0 leans, 1 sways, 2 parts,"
            + " 3 treads.");
        int[] numbers = {0, 1, -1, 268435455, 268435456, -268435456, -268435457, GREATEST, GREATEST - 3, GREATEST - 4,
            LEAST, LEAST + 1};
        for (int x : numbers) {
            long lean = 8L * x - 7;
            int leans = wrapped(lean);
            s.gives("a walker leans, " + x, onShelf(0, 7, 20).act(0, 0, x), leans);
            s.gives("a walker sways, " + x, onShelf(0, 7, 20).act(0, 1, x), wrapped(lean + 20));
            s.gives("a walker treads, " + x, onShelf(0, 7, 20).act(0, 3, x), wrapped(lean + 20) ^ 110);
            s.gives("a clown sways, " + x, onShelf(1, 7, 20).act(0, 1, x), wrapped(-(lean + 20)));
            s.gives("a clown treads, " + x, onShelf(1, 7, 20).act(0, 3, x), wrapped(-(lean + 20)) ^ 110);
            s.gives("a child leans, " + x, onShelf(2, 7, 20).act(0, 0, x), wrapped(lean + 7));
            s.gives("a child treads, " + x, onShelf(2, 7, 20).act(0, 3, x), wrapped((long) (wrapped(lean + 27) ^ 110)));
            s.gives("a jester leans, " + x, onShelf(3, 7, 20).act(0, 0, x), leans ^ 3);
            s.gives("a jester parts, " + x, onShelf(3, 7, 20).act(0, 2, x), wrapped(x + 4L) / 13 - 7);
            s.gives("a saint leans, " + x, onShelf(4, 7, 20).act(0, 0, x), wrapped((lean + 7) * 2));
            s.gives("a saint sways, " + x, onShelf(4, 7, 20).act(0, 1, x),
                wrapped((lean + 7) * 2 + 20 - (160 - 7 + 7) * 2));
            s.gives("a thinker treads, " + x, onShelf(5, 7, 20).act(0, 3, x),
                wrapped(4L * (wrapped(lean + 20) ^ 110)));
            s.gives("a thinker parts, " + x, onShelf(5, 7, 20).act(0, 2, x), wrapped((long) x / 13 + 49));
            s.gives("a walker parts by 1, " + x, onShelf(0, 7, 8).act(0, 2, x), x);
            s.gives("a walker parts by -1, " + x, onShelf(0, 7, 6).act(0, 2, x), wrapped(-(long) x));
            s.gives("a jester parts by -1, " + x, onShelf(3, 7, 6).act(0, 2, x), wrapped(-(long) wrapped(x + 4L) - 7));
            s.gives("a thinker parts by -1, " + x, onShelf(5, 7, 6).act(0, 2, x), wrapped(-(long) x + 49));
        }
        new Sentence("3", "n: its number, a: its PLACE")
            .gives("number 0 at 0 leans", onShelf(0, 0, 0).act(0, 0, 1), 8)
            .gives("number 0 at 0 sways", onShelf(0, 0, 0).act(0, 1, 1), 8)
            .gives("number 0 at 20 sways", onShelf(0, 0, 20).act(0, 1, 1), 28)
            .gives("number 7 at 0 leans", onShelf(0, 7, 0).act(0, 0, 1), 1)
            .gives("number 7 at 0 parts", onShelf(0, 7, 0).act(0, 2, 20), -2)
            .gives("number 0 at 20 parts", onShelf(0, 0, 20).act(0, 2, 41), 2);
    }

    private static void partsCut() {
        new Sentence("3", "12 parts: x by (a - n), cut")
            .gives("-1 by 20", onShelf(0, 0, 20).act(0, 2, -1), 0)
            .gives("-39 by 20", onShelf(0, 0, 20).act(0, 2, -39), -1)
            .gives("39 by 20", onShelf(0, 0, 20).act(0, 2, 39), 1)
            .gives("13 by -7", onShelf(0, 7, 0).act(0, 2, 13), -1)
            .gives("-13 by -7", onShelf(0, 7, 0).act(0, 2, -13), 1)
            .gives("the least by 20", onShelf(0, 0, 20).act(0, 2, LEAST), -107374182)
            .gives("the least by -7", onShelf(0, 7, 0).act(0, 2, LEAST), 306783378);
    }

    private static void traced(Sentence s, String call, TruthRope x, int... want) {
        s.gives(call + ": how many", x.many(6), want.length);
        for (int i = 0; i < want.length; i++) {
            s.gives(call + ": body " + i, x.trace(i), want[i]);
        }
        s.gives(call + ": behind the last", x.trace(want.length), TruthRope.NONE);
    }

    private static void partedByZero() {
        Sentence s = new Sentence("3", "(-15 if these are the same; that is all that act() answers then)");
        Sentence trace = new Sentence("3", "also in one that answers -15");
        int[][] parts = {{12}, {12}, {12}, {50, 12}, {12}, {61, 12}};
        for (int kind = 0; kind < 6; kind++) {
            for (int number = 0; number < 8; number++) {
                for (int place = Math.max(0, number - 1); place <= number + 1; place++) {
                    TruthRope x = onShelf(kind, number, place);
                    int got = x.act(0, 2, 0);
                    boolean same = place == number;
                    s.holds("KIND " + kind + " number " + number + " at " + place, same == (got == -15));
                    if (same) {
                        traced(trace, "KIND " + kind + " parts", x, parts[kind]);
                    }
                }
            }
        }
        for (int number = 0; number < 8; number++) {
            TruthRope child = onShelf(2, number, number);
            s.gives("a child treads", child.act(0, 3, 3), -15);
            traced(trace, "a child treads", child, 31, 13, 11, 30, 10, 12);
            TruthRope saint = onShelf(4, number, number);
            s.gives("a saint treads", saint.act(0, 3, 3), -15);
            traced(trace, "a saint treads", saint, 31, 13, 41, 11, 40, 30, 10, 40, 30, 10, 12);
            TruthRope thinker = onShelf(5, number, number);
            int treads = (24 - number + number ^ 110) * 4;
            s.gives("a thinker treads, and doesn't part", thinker.act(0, 3, 3), treads);
            s.gives("a walker leans, and doesn't part", onShelf(0, number, number).act(0, 0, 3), 24 - number);
            s.gives("a jester treads, and doesn't part", onShelf(3, number, number).act(0, 3, 0),
                -((-number ^ 3) + number) ^ 110);
        }
        TruthRope again = onShelf(0, 1, 1);
        again.act(0, 2, 5);
        again.stand(1, 2);
        s.gives("one that answered -15, at another PLACE", again.act(0, 2, 5), 5);
        s.refuses(() -> parted(), "-15 changes nothing but THE TRACE", y -> y.act(Busy.WALKER_SHELF, 2, 5), -15);
    }

    private static TruthRope parted() {
        TruthRope x = Busy.circus();
        x.stand(4, 4);
        x.act(Busy.WALKER_SHELF, 2, 5);
        return x;
    }

    private static void theTrace() {
        Sentence s = new Sentence("3", "THE TRACE: numbers of the bodies that ran in the latest act(), as they began"
            + " (left first;");
        TruthRope x = new TruthRope();
        s.gives("none before the first act", x.many(6), 0).gives("none", x.trace(0), TruthRope.NONE);
        x = onShelf(4, 1, 5);
        x.act(0, 3, 1);
        traced(s, "a saint treads", x, 31, 13, 41, 11, 40, 30, 10, 40, 30, 10, 12);
        x.act(0, 0, 1);
        traced(s, "the latest act", x, 40, 30, 10);
        x.mind(1, 5, 0);
        x.act(0, 2, 1);
        traced(s, "a thinker parts", x, 61, 12, 10);
        x.mind(1, 1, 0);
        x.act(0, 3, 1);
        traced(s, "a clown treads", x, 13, 20, 11, 10);
        x.act(0, 4, 1);
        traced(s, "no such act", x);
    }

    /** No act runs more than 11 bodies: the saint's treading is the longest. */
    private static void thirty() {
        Sentence s = new Sentence("3", "the first 30 are kept");
        int most = 0;
        for (int kind = 0; kind < 6; kind++) {
            TruthRope x = onShelf(kind, 2, 9);
            for (int act = 0; act < 4; act++) {
                x.act(0, act, 100);
                most = Math.max(most, x.many(6));
                s.gives("a 31st", x.trace(30), TruthRope.NONE);
            }
        }
        s.gives("the longest, all of it", most, 11);
    }

    private static void sheets() {
        Sentence s = new Sentence("3", "SHEETS 0 to 3 are rows of bytes (sort 0), shorts (1), ints (2) or longs (3),"
            + " 40 at most, or missing (at first).");
        int[] lows = {-128, -32768, LEAST, LEAST};
        int[] highs = {127, 32767, GREATEST, GREATEST};
        for (int sheet = 0; sheet < 4; sheet++) {
            TruthRope x = new TruthRope();
            s.gives("SHEET " + sheet + " at first", x.put(sheet, 0, 1), -11);
            for (int sort = 0; sort < 4; sort++) {
                s.gives("of 40", x.sheet(sheet, sort, 40), 1);
                s.gives("its last", x.put(sheet, 39, lows[sort]), 1);
                s.gives("its last then", x.item(sheet, sort, 39), lows[sort]);
                s.gives("its first", x.put(sheet, 0, highs[sort]), 1);
                s.gives("its first then", x.item(sheet, sort, 0), highs[sort]);
                s.gives("behind the last", x.put(sheet, 40, 1), -12);
                s.gives("of 0", x.sheet(sheet, sort, 0), 1);
                s.gives("its first", x.put(sheet, 0, 1), -12);
                s.gives("of 41", x.sheet(sheet, sort, 41), TruthRope.BAD);
            }
        }
    }

    private static void shelves() {
        Sentence s = new Sentence("3", "SHELVES 0 to 3 hold one of the WALKERS (by its number; nothing, if there is no"
            + " such one at the time), a SHEET's row (itself, whatever the SHEET becomes), or nothing (at first).");
        for (int shelf = 0; shelf < 4; shelf++) {
            TruthRope x = new TruthRope();
            s.gives("SHELF " + shelf + " at first", x.taken(shelf, 0), -11);
            s.gives("SHELF " + shelf + " at first, for a row", x.taken(shelf, 10), -11);
            s.gives("SHELF " + shelf + " at first acts", x.act(shelf, 0, 1), 0);
            Check.circus(x, "clown;child;jester;");
            x.shelf(shelf, 0, 2);
            s.gives("the third", x.taken(shelf, 3), 2);
            Check.circus(x, "clown;saint;");
            s.gives("gone", x.taken(shelf, 0), -11);
            s.gives("gone, for a row", x.taken(shelf, 10), -11);
            s.gives("gone, in an act", x.act(shelf, 0, 1), 0);
            x.walker(4, 9);
            s.gives("one of that number again", x.taken(shelf, 4), 2);
            s.gives("of another KIND", x.taken(shelf, 3), -13);
            s.gives("and it acts", x.act(shelf, 0, 1), 2 * (8 - 2 + 7));
            x.sheet(1, 2, 40);
            x.shelf(shelf, 1, 1);
            x.sheet(1, 0, 3);
            s.gives("the row itself", x.taken(shelf, 12), 40);
            x.sheet(1, -1, 0);
            s.gives("the row itself, its SHEET missing", x.taken(shelf, 12), 40);
            s.gives("not what the SHEET became", x.taken(shelf, 10), -13);
            x.shelf(shelf, 1, 1);
            s.gives("a missing SHEET's", x.taken(shelf, 12), -11);
            x.sheet(1, 0, 0);
            s.gives("nothing still", x.taken(shelf, 10), -11);
            x.shelf(shelf, 1, 1);
            s.gives("a row of none", x.taken(shelf, 10), 0);
        }
    }
}
