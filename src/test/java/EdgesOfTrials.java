/** The boundaries that part 2 names but for THE TAPE: what is tried, ODDS, DRAWS. */
final class EdgesOfTrials {
    private static final int NONE = TruthRope.NONE;

    private EdgesOfTrials() {
    }

    static void look() {
        nothingChanges();
        reaches();
        fromAnOddStep();
        overFallsAndEnd();
        sayFor();
        kindFor();
        turnedFor();
        loadFor();
        agreedAndClash();
        held();
        fits();
        odds();
        draws();
        stepsByDraws();
        luck();
    }

    private static void nothingChanges() {
        Sentence s = new Sentence("2", "What is asked here is TRIED; nothing changes.");
        Sentence.Call[] asked = {
            x -> x.reaches(0, 60), x -> x.over(0), x -> x.over(1), x -> x.falls(1), x -> x.falls(5), x -> x.end(),
            x -> x.sayFor(0, 30), x -> x.sayFor(1, 30), x -> x.kindFor(0, 30), x -> x.turnedFor(0, 30),
            x -> x.loadFor(0, 30), x -> x.both(0, 4, 0), x -> x.both(0, 4, 1), x -> x.fits(0, 0, 0),
            x -> x.fits(0, 0, 1), x -> x.odds(8, 4, 0), x -> x.hope(99, 0), x -> x.luck(30), x -> x.state(5),
            x -> x.judge(0), x -> x.does(0, 0), x -> x.lawOf(3), x -> x.of(0, 0), x -> x.row(0, 0),
            x -> x.item(0, 0, 0), x -> x.taken(0, 0), x -> x.trace(0), x -> x.many(6),
        };
        String busy = Busy.picture(Busy.circus());
        for (int i = 0; i < asked.length; i++) {
            TruthRope x = Busy.circus();
            asked[i].on(x);
            s.holds("question " + i, busy.equals(Busy.picture(x)));
        }
    }

    private static TruthRope one(int kind, int weight, int place) {
        TruthRope x = new TruthRope();
        x.walker(kind, weight);
        x.stand(0, place);
        return x;
    }

    /** One that has FALLEN at a PLACE, of WEIGHT 0, so that nothing but that holds it. */
    private static TruthRope fallen(int place) {
        TruthRope x = one(0, 99, place);
        x.steps(1);
        x.mind(0, 0, 0);
        return x;
    }

    private static void reaches() {
        Sentence s = new Sentence("2", "REACHES of one by n: its PLACE behind n STEPS.");
        for (int n = 0; n <= 60; n++) {
            s.gives("a walker by " + n, one(0, 0, 0).reaches(0, n), Math.min(20, n));
            s.gives("a thinker of 0 by " + n, one(5, 0, 0).reaches(0, n), Math.min(10, n));
            s.gives("a jester by " + n, one(3, 0, 0).reaches(0, n), Math.min(20, 5 * (n / 2) + 3 * (n % 2)));
            s.gives("one ACROSS by " + n, one(0, 99, 20).reaches(0, n), 20);
            s.gives("one that has FALLEN by " + n, fallen(7).reaches(0, n), 7);
        }
    }

    /** What is tried begins at the STEP that is now: a jester STRIDES by whether that is even. */
    private static void fromAnOddStep() {
        TruthRope x = one(3, 0, 0);
        x.steps(1);
        x.stand(0, 0);
        Sentence s = new Sentence("2", "its PLACE behind n STEPS");
        for (int n = 0; n <= 60; n++) {
            s.gives("a jester from STEP 1 by " + n, x.reaches(0, n), Math.min(20, 5 * (n / 2) + 2 * (n % 2)));
        }
        x.stand(0, 17);
        s.gives("STEPS from 17 at STEP 1", x.over(0), 2).gives("END", x.end(), 2)
            .gives("SAY FOR", x.sayFor(0, 1), NONE).gives("LOAD FOR", x.loadFor(0, 1), NONE)
            .gives("KIND FOR, a clown goes as far", x.kindFor(0, 1), 1);
        told(x, 0, 19, 20);
        s.gives("FITS", x.fits(0, 0, 0), 256);
        x.prove(0, 2);
        s.gives("ROWS", x.row(0, 0) * 100 + x.row(1, 0), 1920);
        x.steps(1);
        x.stand(0, 17);
        s.gives("STEPS from 17 at STEP 2", x.over(0), 1).gives("END", x.end(), 1)
            .gives("SAY FOR", x.sayFor(0, 1), 0).gives("LOAD FOR", x.loadFor(0, 1), 2)
            .gives("KIND FOR, a jester alone", x.kindFor(0, 1), 3).gives("FITS", x.fits(0, 0, 0), 0)
            .gives("ROWS are wrong", x.judge(0), 1);
    }

    private static void overFallsAndEnd() {
        Sentence over = new Sentence("2", "OVER: behind the fewest STEPS (0 to 60) it is ACROSS first.");
        Sentence falls = new Sentence("2", "FALLS: behind the fewest (0 to 60) it has FALLEN first.");
        for (int place = 0; place <= 20; place++) {
            over.gives("a walker from " + place, one(0, 0, place).over(0), 20 - place);
            over.gives("a clown from " + place, one(1, 0, place).over(0), (21 - place) / 2);
            over.gives("a thinker of 0 from " + place, one(5, 0, place).over(0), place == 20 ? 0 : NONE);
            falls.gives("a thinker of 0 from " + place, one(5, 0, place).falls(0),
                place == 20 ? NONE : Math.max(1, 11 - place));
            falls.gives("a walker from " + place, one(0, 0, place).falls(0), NONE);
            falls.gives("a walker of 1 from " + place, one(0, 1, place).falls(0), place == 20 ? NONE : 1);
        }
        falls.gives("one that has FALLEN", fallen(3).falls(0), 0);
        over.gives("one that has FALLEN", fallen(19).over(0), NONE);
        Sentence end = new Sentence("2", "END: behind the fewest (0 to 60) each is ACROSS or has FALLEN first"
            + " (0 without WALKERS).")
            .gives("without WALKERS", new TruthRope().end(), 0)
            .gives("one ACROSS", one(0, 99, 20).end(), 0)
            .gives("one that has FALLEN", fallen(3).end(), 0)
            .gives("one at 19", one(0, 0, 19).end(), 1)
            .gives("one that falls at once", one(0, 1, 0).end(), 1)
            .gives("a walker", one(0, 0, 0).end(), 20);
        TruthRope x = new TruthRope();
        for (int i = 0; i < 8; i++) {
            x.walker(0, 0);
            x.stand(i, 20 - i);
            end.gives("the slowest of " + (i + 1), x.end(), i);
        }
        x.stand(0, 0);
        end.gives("the slowest, that comes first", x.end(), 20);
    }

    private static TruthRope withFacts(int facts, TruthRope x) {
        for (int fact = 0; fact < 8; fact++) {
            x.fact(fact, facts >> fact & 1);
        }
        return x;
    }

    private static void sayFor() {
        Sentence fewest = new Sentence("2", "SAY FOR one, n: the SAYING of fewest FACTS with which it is ACROSS behind"
            + " n STEPS");
        for (int said = 0; said <= 8; said++) {
            int last = (1 << said) - 1;
            TruthRope none = one(0, 8 * said, 0);
            fewest.gives("a walker of " + 8 * said + ", none SO", none.sayFor(0, 20), last);
            TruthRope all = withFacts(255, one(0, 8 * said, 0));
            fewest.gives("a walker of " + 8 * said + ", all SO", all.sayFor(0, 20), 256 * last);
            TruthRope more = one(0, Math.max(0, 8 * said - 7), 0);
            fewest.gives("a walker of " + (8 * said - 7) + ", none SO", more.sayFor(0, 20), last);
        }
        fewest.gives("heavier than all FACTS bear", one(0, 65, 0).sayFor(0, 20), NONE)
            .gives("ACROSS, whatever it weighs", one(0, 99, 20).sayFor(0, 1), 0)
            .gives("one STEP too few", one(0, 8, 0).sayFor(0, 19), NONE)
            .gives("just so many STEPS", one(0, 8, 10).sayFor(0, 10), 1)
            .gives("one that has FALLEN", fallen(19).sayFor(0, 30), NONE)
            .gives("a thinker that may say nothing", one(5, 0, 0).sayFor(0, 30), NONE);
        Sentence least = new Sentence("2", "of several that of the least YES, then of the least NO");
        least.gives("FACT 7 alone not SO", withFacts(127, one(0, 8, 0)).sayFor(0, 20), 128)
            .gives("FACT 7 alone SO", withFacts(128, one(0, 8, 0)).sayFor(0, 20), 1)
            .gives("a clown, FACT 7 alone SO", withFacts(128, one(1, 8, 0)).sayFor(0, 10), 128)
            .gives("a clown, none SO", one(1, 8, 0).sayFor(0, 10), 256)
            .gives("two, FACT 7 alone not SO", withFacts(127, one(0, 16, 0)).sayFor(0, 20), 256 + 128)
            .gives("two, FACTS 6 and 7 not SO", withFacts(63, one(0, 16, 0)).sayFor(0, 20), 192);
        TruthRope own = one(0, 16, 0);
        own.say(0, 3, 0);
        least.gives("its own SAYING counts nothing", own.sayFor(0, 20), 3);
    }

    private static void kindFor() {
        new Sentence("2", "KIND FOR one, n: the KIND as one of which it REACHES most by n; of several the least.")
            .gives("none goes", one(0, 99, 0).kindFor(0, 30), 0)
            .gives("none goes, whatever it is now", one(5, 99, 0).kindFor(0, 30), 0)
            .gives("one ACROSS", one(4, 99, 20).kindFor(0, 1), 0)
            .gives("one that has FALLEN", fallen(9).kindFor(0, 30), 0)
            .gives("all come over, but a thinker", one(5, 0, 0).kindFor(0, 30), 0)
            .gives("a clown and a jester come over", one(5, 0, 0).kindFor(0, 10), 1)
            .gives("a jester alone comes over", one(5, 0, 0).kindFor(0, 9), 3)
            .gives("a child is the least that bears 3", one(5, 3, 0).kindFor(0, 1), 2)
            .gives("a jester alone strides 3", one(5, 2, 0).kindFor(0, 1), 3)
            .gives("a saint alone bears 17, or a thinker: a saint", one(5, 17, 0).kindFor(0, 1), 4)
            .gives("a saint bears 32", one(5, 32, 0).kindFor(0, 1), 4)
            .gives("a thinker alone bears 33", one(0, 33, 0).kindFor(0, 1), 5);
    }

    private static void turnedFor() {
        Sentence s = new Sentence("2", "TURNED FOR one, n: the FACT with which, were it SO, if it is not now, or not SO,"
            + " if it is, it REACHES most by n, more than as it is; of several the least.");
        for (int fact = 0; fact < 8; fact++) {
            TruthRope x = one(0, 8, 0);
            x.say(0, 1 << fact, 0);
            s.gives("FACT " + fact + ", not SO now", x.turnedFor(0, 1), fact);
            TruthRope y = withFacts(255, one(0, 8, 0));
            y.say(0, 0, 1 << fact);
            s.gives("FACT " + fact + ", SO now", y.turnedFor(0, 1), fact);
        }
        TruthRope x = one(0, 1, 0);
        s.gives("none, by a SAYING of none", x.turnedFor(0, 30), NONE);
        x.say(0, 192, 0);
        s.gives("the least of two", x.turnedFor(0, 30), 6);
        x.fact(7, 1);
        s.gives("none, as it goes as it is", x.turnedFor(0, 30), NONE);
        TruthRope saint = one(4, 0, 0);
        saint.say(0, 255, 0);
        saint.set(1, 0);
        s.gives("a saint, by 1: the least of eight", saint.turnedFor(0, 1), 0);
        s.gives("a saint, by 10", saint.turnedFor(0, 10), 0);
        s.gives("a saint, by 20: it is ACROSS as it is", saint.turnedFor(0, 20), NONE);
        s.gives("one ACROSS", one(0, 99, 20).turnedFor(0, 1), NONE);
        s.gives("one that has FALLEN", fallen(3).turnedFor(0, 30), NONE);
    }

    private static void loadFor() {
        Sentence s = new Sentence("2", "LOAD FOR one, n: the greatest WEIGHT (0 to 99) with which it is ACROSS behind n"
            + " STEPS.");
        s.gives("one ACROSS", one(0, 0, 20).loadFor(0, 1), 99)
            .gives("one that has FALLEN", fallen(3).loadFor(0, 30), NONE)
            .gives("a walker that says nothing", one(0, 99, 0).loadFor(0, 20), 0)
            .gives("one STEP too few", one(0, 0, 0).loadFor(0, 19), NONE)
            .gives("a thinker at 19", one(5, 0, 19).loadFor(0, 1), NONE)
            .gives("a child", one(2, 0, 0).loadFor(0, 20), 16)
            .gives("a saint", one(4, 0, 0).loadFor(0, 20), 32);
        TruthRope x = one(0, 0, 0);
        x.say(0, 1, 0);
        s.gives("one that BEARS -3", x.loadFor(0, 30), NONE);
        x.mind(0, 4, 0);
        x.set(0, 9);
        x.set(1, 0);
        int[] bears = {32, 46, 60, 74, 88, 99, 99, 99, 99};
        for (int right = 0; right <= 8; right++) {
            x.say(0, 0, (1 << right) - 1);
            s.gives("a saint of " + right + " RIGHT", x.loadFor(0, 30), bears[right]);
        }
    }

    private static TruthRope two(int yes, int no, int otherYes, int otherNo) {
        TruthRope x = new TruthRope();
        x.walker(0, 0);
        x.walker(5, 99);
        x.say(0, yes, no);
        x.say(1, otherYes, otherNo);
        return x;
    }

    private static void agreedAndClash() {
        Sentence agreed = new Sentence("2", "AGREED by two: how many FACTS both say to be SO, or both say not to be.");
        Sentence clash = new Sentence("2", "CLASH: how many one says to be SO, the other one not to be, both ways.");
        int[][] all = {
            {0, 0, 0, 0, 0, 0}, {255, 0, 0, 0, 0, 0}, {255, 0, 255, 0, 8, 0}, {0, 255, 0, 255, 8, 0},
            {255, 0, 0, 255, 0, 8}, {0, 255, 255, 0, 0, 8}, {15, 240, 240, 15, 0, 8}, {15, 240, 15, 240, 8, 0},
            {1, 128, 128, 1, 0, 2}, {1, 128, 1, 128, 2, 0}, {1, 0, 0, 128, 0, 0}, {128, 0, 0, 128, 0, 1},
        };
        for (int[] a : all) {
            TruthRope x = two(a[0], a[1], a[2], a[3]);
            for (int i = 0; i < 2; i++) {
                agreed.gives("of " + java.util.Arrays.toString(a), x.both(i, 1 - i, 0), a[4]);
                clash.gives("of " + java.util.Arrays.toString(a), x.both(i, 1 - i, 1), a[5]);
            }
        }
    }

    private static void held() {
        Sentence s = new Sentence("2", "HELD: the most of all WALKERS of whom no two CLASH in any FACT.");
        TruthRope x = new TruthRope();
        s.gives("without WALKERS", x.state(5), 0);
        for (int i = 0; i < 8; i++) {
            x.walker(0, 0);
            s.gives("of " + (i + 1) + " that say nothing", x.state(5), i + 1);
        }
        for (int i = 0; i < 8; i++) {
            x.say(i, 1 << i, 255 & ~(1 << i));
        }
        s.gives("each clashes with each", x.state(5), 1);
        for (int fact = 0; fact < 8; fact++) {
            for (int i = 0; i < 8; i++) {
                x.say(i, 0, 1 << fact);
            }
            s.gives("all deny FACT " + fact, x.state(5), 8);
            x.say(3, 1 << fact, 0);
            s.gives("one alone says FACT " + fact, x.state(5), 7);
        }
        for (int i = 0; i < 8; i++) {
            x.say(i, 255, 0);
        }
        s.gives("all say the same", x.state(5), 8);
        x.say(7, 127, 128);
        s.gives("the last clashes with all", x.state(5), 7);
        x.say(0, 127, 128);
        s.gives("the first and the last agree", x.state(5), 6);
        for (int i = 0; i < 4; i++) {
            x.say(i, 0, 128);
        }
        x.say(7, 255, 0);
        s.gives("half and half", x.state(5), 4);
        x.stand(0, 20);
        x.mind(7, 0, 99);
        x.steps(1);
        s.gives("those at rest count too", x.state(5), 4);
    }

    private static TruthRope told(TruthRope x, int sort, int... numbers) {
        x.sheet(0, sort, numbers.length);
        for (int i = 0; i < numbers.length; i++) {
            x.put(0, i, numbers[i]);
        }
        return x;
    }

    private static TruthRope saintOf(int yes, int no) {
        TruthRope x = one(4, 0, 0);
        x.say(0, yes, no);
        x.set(1, 0);
        return x;
    }

    private static void fits() {
        Sentence sets = new Sentence("2", "FITS of one by a SHEET (of any sort): those sets of FACTS (0 to 255) that"
            + " might be SO (no others)");
        Sentence any = new Sentence("2", "what the numbers of the SHEET tell, one by one (-1: any)");
        for (int sort = 0; sort < 4; sort++) {
            sets.gives("set 0 alone, how many", told(saintOf(0, 255), sort, 9).fits(0, 0, 0), 1)
                .gives("set 0 alone", told(saintOf(0, 255), sort, 9).fits(0, 0, 1), 0)
                .gives("set 255 alone, how many", told(saintOf(255, 0), sort, 9).fits(0, 0, 0), 1)
                .gives("set 255 alone", told(saintOf(255, 0), sort, 9).fits(0, 0, 1), 255)
                .gives("no set, how many", told(saintOf(255, 0), sort, 10).fits(0, 0, 0), 0)
                .gives("no set", told(saintOf(255, 0), sort, 10).fits(0, 0, 1), NONE)
                .gives("all sets, how many", told(saintOf(0, 0), sort, 1, 2, 3).fits(0, 0, 0), 256)
                .gives("what is SO now counts nothing", told(withFacts(255, saintOf(0, 255)), sort, 9).fits(0, 0, 1), 0);
            any.gives("of none", told(saintOf(255, 0), sort).fits(0, 0, 0), 256)
                .gives("of none, the least", told(saintOf(255, 0), sort).fits(0, 0, 1), 0)
                .gives("any", told(saintOf(255, 0), sort, -1).fits(0, 0, 0), 256)
                .gives("any, then one of nine", told(saintOf(255, 0), sort, -1, 18).fits(0, 0, 0), 1)
                .gives("one of nine, then any", told(saintOf(255, 0), sort, 9, -1).fits(0, 0, 0), 1)
                .gives("the second counts too", told(saintOf(255, 0), sort, 9, 17).fits(0, 0, 0), 0)
                .gives("-2 is not any", told(saintOf(255, 0), sort, -2).fits(0, 0, 0), 0)
                .gives("0 is not any", told(saintOf(255, 0), sort, 0).fits(0, 0, 0), 0)
                .gives("one that has FALLEN stays", told(fallen(7), sort, 7, 7, 7).fits(0, 0, 0), 256)
                .gives("one ACROSS stays", told(one(0, 99, 20), sort, 20, 20).fits(0, 0, 0), 256);
            fullSheet(any, sort);
        }
        any.gives("255 as a byte is -1", told(saintOf(255, 0), 0, 255).fits(0, 0, 0), 256)
            .gives("65535 as a short is -1", told(saintOf(255, 0), 1, 65535).fits(0, 0, 0), 256)
            .gives("65535 as an int is not", told(saintOf(255, 0), 2, 65535).fits(0, 0, 0), 0)
            .gives("257 as a byte is 1", told(saintOf(255, 0), 0, 257).fits(0, 0, 0), 1)
            .gives("257 as a short is not", told(saintOf(255, 0), 1, 257).fits(0, 0, 0), 0);
    }

    private static void fullSheet(Sentence any, int sort) {
        TruthRope x = one(0, 0, 0);
        int[] way = new int[40];
        for (int i = 0; i < 40; i++) {
            way[i] = Math.min(20, i + 1);
        }
        any.gives("forty numbers", told(x, sort, way).fits(0, 0, 0), 256);
        x.put(0, 39, 19);
        any.gives("forty numbers, the last wrong", x.fits(0, 0, 0), 0);
        x.put(0, 39, -1);
        any.gives("forty numbers, the last any", x.fits(0, 0, 0), 256);
        x.put(0, 0, 0);
        any.gives("forty numbers, the first wrong", x.fits(0, 0, 0), 0);
    }

    private static void odds() {
        TruthRope x = new TruthRope();
        Sentence odds = new Sentence("2", "ODDS by n, k: that of n sayings just k are doubted, each by DOUBT of a hundred.");
        Sentence hope = new Sentence("2", "HOPE by n: how many are on average.");
        x.set(3, 0);
        odds.gives("none by 0", x.odds(8, 0, 0) * 10 + x.odds(8, 0, 1), 11)
            .gives("one by 0", x.odds(8, 1, 0) * 10 + x.odds(8, 1, 1), 1);
        hope.gives("by 0", x.hope(99, 0) * 10 + x.hope(99, 1), 1);
        x.set(3, 99);
        odds.gives("none of one by 99", x.odds(1, 0, 0), 1)
            .gives("none of one by 99, below", x.odds(1, 0, 1), 100)
            .gives("none of eight by 99, above", x.odds(8, 0, 0), 1)
            .gives("none of eight by 99, below", x.odds(8, 0, 1), 10000000000000000L)
            .gives("four of eight by 99, above", x.odds(8, 4, 0), 672417207L)
            .gives("four of eight by 99, below", x.odds(8, 4, 1), 1000000000000000L);
        hope.gives("99 by 99, above", x.hope(99, 0), 9801).gives("99 by 99, below", x.hope(99, 1), 100);
        x.set(3, 50);
        for (int n = 0; n <= 8; n++) {
            odds.gives("all of " + n + " by a half, above", x.odds(n, n, 0), 1);
            odds.gives("all of " + n + " by a half, below", x.odds(n, n, 1), 1L << n);
            odds.gives("none of " + n + " by a half, below", x.odds(n, 0, 1), 1L << n);
        }
    }

    private static void draws() {
        TruthRope x = new TruthRope();
        Sentence first = new Sentence("2", "DRAWS: z (an int; 1 at first)");
        first.gives("at first", x.seed(1), 1);
        Sentence next = new Sentence("2", "becomes z * 1103515245 + 12345; z >>> 16 is drawn");
        x.step();
        next.gives("behind two draws from 1", x.seed(Integer.MAX_VALUE), -1770082073);
        x.step();
        next.gives("behind two from the greatest", x.seed(Integer.MIN_VALUE), twice(Integer.MAX_VALUE));
        x.step();
        next.gives("behind two from the least", x.seed(-1), twice(Integer.MIN_VALUE));
        x.step();
        next.gives("behind two from -1", x.seed(0), twice(-1));
        x.step();
        next.gives("behind two from 0", x.seed(0), twice(0));
        Sentence negative = new Sentence("2", "z >>> 16 is drawn");
        for (int seed : new int[] {1, 3, 5, 7, 9, 11, 13, 15, -1, -2, -3, -4, Integer.MIN_VALUE, Integer.MAX_VALUE}) {
            TruthRope y = new TruthRope();
            y.set(3, 99);
            y.seed(seed);
            y.step();
            negative.gives("the FACT turned from " + seed, y.state(3), turned(seed, 99));
        }
    }

    /** Reckoned in longs, so that the wrap of an int is made here by its own rule. */
    private static int once(int z) {
        long wide = (long) z * 1103515245L + 12345L;
        return (int) (wide & 0xffffffffL);
    }

    private static int twice(int z) {
        return once(once(z));
    }

    private static long drawn(int z) {
        return (z & 0xffffffffL) / 65536;
    }

    private static int turned(int z, int doubt) {
        return drawn(twice(z)) % 100 < doubt ? 1 << drawn(once(z)) % 8 : 0;
    }

    private static void stepsByDraws() {
        Sentence fact = new Sentence("2", "A STEP BY DRAWS: a draw: the FACT that it leaves by 8");
        Sentence doubt = new Sentence("2", "and one more: if what that leaves by 100 is below DOUBT, that is SO,"
            + " if it was not, else not SO; then a STEP.");
        boolean[] factSeen = new boolean[8];
        boolean[] leftSeen = new boolean[100];
        for (int seed = 0; seed < 1500; seed++) {
            int left = (int) (drawn(twice(seed)) % 100);
            int which = (int) (drawn(once(seed)) % 8);
            factSeen[which] = true;
            leftSeen[left] = true;
            for (int law : new int[] {0, left, Math.min(99, left + 1), 99}) {
                TruthRope x = new TruthRope();
                x.set(3, law);
                x.seed(seed);
                x.step();
                fact.gives("DOUBT " + law + " from " + seed, x.state(3), left < law ? 1 << which : 0);
                doubt.gives("two draws, DOUBT " + law + " from " + seed, x.seed(seed), twice(seed));
                x.step();
                doubt.gives("DOUBT " + law + " from " + seed + " again", x.state(3), 0);
                doubt.gives("two STEPS", x.state(0), 2);
            }
        }
        for (int i = 0; i < 8; i++) {
            fact.holds("FACT " + i + " was drawn", factSeen[i]);
        }
        doubt.holds("0, 1, 98 and 99 were left", leftSeen[0] && leftSeen[1] && leftSeen[98] && leftSeen[99]);
        TruthRope x = one(0, 0, 19);
        x.set(3, 99);
        x.say(0, 1 << drawn(once(2)) % 8, 0);
        x.mind(0, 0, 8);
        x.seed(2);
        doubt.holds("seed 2 is of one that is doubted", turned(2, 99) != 0);
        doubt.gives("the STEP is behind what is turned", x.step(), 1);
    }

    private static void luck() {
        Sentence s = new Sentence("2", "LUCK: in how many of n STEPS BY DRAWS, each tried from how all is now (z alone"
            + " goes on), more have FALLEN than behind a STEP (nothing changes, z neither).");
        TruthRope x = withFacts(255, one(0, 64, 0));
        x.say(0, 255, 0);
        for (int doubt : new int[] {0, 1, 50, 98, 99}) {
            x.set(3, doubt);
            x.seed(-5);
            int z = -5;
            int want = 0;
            for (int n = 1; n <= 30; n++) {
                want += turned(z, doubt) != 0 ? 1 : 0;
                z = twice(z);
                s.gives("DOUBT " + doubt + " by " + n, x.luck(n), want);
            }
            s.gives("z neither", x.seed(-5), -5);
        }
        s.gives("FACTS neither", x.state(3), 255).gives("nobody fell", x.state(2), 0).gives("STEP neither", x.state(0), 0);
        s.gives("without WALKERS", new TruthRope().luck(30), 0);
        s.gives("one that has FALLEN", fallen(3).luck(30), 0);
        TruthRope fewer = withFacts(255, one(0, 5, 0));
        fewer.say(0, 0, 255);
        fewer.set(0, 9);
        fewer.set(1, 0);
        fewer.set(3, 99);
        for (int doubt : new int[] {0, 1, 50, 99}) {
            fewer.set(3, doubt);
            s.gives("fewer FALLEN, or as many, count nothing, DOUBT " + doubt, fewer.luck(30), 0);
        }
        s.refuses("changes nothing", y -> y.luck(30) * 0, 0);
    }
}
