/** The boundaries that promises 18 to 33 name, call by call. */
final class EdgesOfPromises18To33 {
    private static final int BAD = TruthRope.BAD, NONE = TruthRope.NONE;

    private EdgesOfPromises18To33() {
    }

    static void look() {
        reaches();
        over();
        falls();
        end();
        sayFor();
        kindFor();
        turnedFor();
        loadFor();
        both();
        fits();
        odds();
        hope();
        prove();
        row();
        alterRow();
        judge();
    }

    /** A call of one and n: which ones and which n are refused, also without WALKERS. */
    private interface OfOne {
        int on(TruthRope x, int walker, int n);
    }

    private static void refusesAllBut(Sentence s, int least, int most, OfOne call) {
        s.refusesEach("of one v", Sentence.outside(0, 5), (x, v) -> call.on(x, v, least), BAD);
        s.refusesEach("by n v", Sentence.outside(least, most), (x, v) -> call.on(x, 0, v), BAD);
        s.refusesEach("of the last by n v", Sentence.outside(least, most), (x, v) -> call.on(x, 5, v), BAD);
        s.refuses(Busy::withoutWalkers, "without WALKERS", x -> call.on(x, 0, most), BAD);
        for (int i = 0; i < Busy.WALKERS; i++) {
            int walker = i;
            s.holds(walker + " by the least n", call.on(Busy.circus(), walker, least) != BAD);
            s.holds(walker + " by the most n", call.on(Busy.circus(), walker, most) != BAD);
        }
    }

    private static void reaches() {
        Sentence s = new Sentence("Promise 18", "REACHES of one by n (0 to 60). BAD.");
        refusesAllBut(s, 0, 60, TruthRope::reaches);
        s.gives("by 0", Busy.circus().reaches(0, 0), 5).gives("by 1", Busy.circus().reaches(0, 1), 6)
            .gives("by 60", Busy.circus().reaches(0, 60), 20)
            .gives("one that has FALLEN, by 60", Busy.circus().reaches(Busy.FALLEN_ONE, 60), 5);
    }

    private static void over() {
        Sentence s = new Sentence("Promise 19", "OVER. BAD; NONE: not by then.");
        s.refusesEach("over(v)", Sentence.outside(0, 5), (x, v) -> x.over(v), BAD);
        s.refuses(Busy::withoutWalkers, "without WALKERS", x -> x.over(0), BAD);
        s.refuses("one that has FALLEN", x -> x.over(Busy.FALLEN_ONE), NONE);
        s.refuses("one that will fall", x -> x.over(5), NONE);
        s.gives("one ACROSS", Busy.circus().over(Busy.ACROSS_ONE), 0).gives("one at 5", Busy.circus().over(0), 15);
    }

    private static void falls() {
        Sentence s = new Sentence("Promise 20", "FALLS of one. BAD; NONE: not by then.");
        s.refusesEach("falls(v)", Sentence.outside(0, 5), (x, v) -> x.falls(v), BAD);
        s.refuses(Busy::withoutWalkers, "without WALKERS", x -> x.falls(0), BAD);
        s.refuses("one that comes over", x -> x.falls(0), NONE);
        s.refuses("one ACROSS", x -> x.falls(Busy.ACROSS_ONE), NONE);
        s.gives("one that has FALLEN", Busy.circus().falls(Busy.FALLEN_ONE), 0);
        s.gives("a thinker of 10 at 3", Busy.circus().falls(5), 7);
    }

    /** Each STRIDES 1 or more, so behind 20 STEPS all are at rest, and NONE can't be. */
    private static void end() {
        Sentence s = new Sentence("Promise 21", "END. NONE: not by then.");
        s.gives("without WALKERS", Busy.withoutWalkers().end(), 0);
        s.gives("busy", Busy.circus().end(), 15);
        for (int kind = 0; kind < 6; kind++) {
            for (int weight = 0; weight <= 99; weight += 33) {
                TruthRope x = new TruthRope();
                x.walker(kind, weight);
                int want = x.falls(0) == NONE ? x.over(0) : x.falls(0);
                s.gives("KIND " + kind + " of " + weight, x.end(), want);
                s.holds("KIND " + kind + " of " + weight + " by then", want >= 0 && want <= 20);
            }
        }
    }

    private static void sayFor() {
        Sentence s = new Sentence("Promise 22", "SAY FOR one, n (1 to 30): 256 times its YES, and its NO. BAD; NONE:"
            + " with none.");
        refusesAllBut(s, 1, 30, TruthRope::sayFor);
        s.refuses("one that has FALLEN", x -> x.sayFor(Busy.FALLEN_ONE, 30), NONE);
        s.refuses("too few STEPS", x -> x.sayFor(0, 14), NONE);
        s.gives("just enough", Busy.circus().sayFor(0, 15), 4 + 8);
        s.gives("one ACROSS", Busy.circus().sayFor(Busy.ACROSS_ONE, 1), 0);
        TruthRope x = new TruthRope();
        x.walker(0, 64);
        s.gives("all in NO", x.sayFor(0, 20), 255);
        for (int fact = 0; fact < 8; fact++) {
            x.fact(fact, 1);
        }
        s.gives("all in YES", x.sayFor(0, 20), 255 * 256);
        x.fact(0, 0);
        s.gives("all but FACT 0 in YES", x.sayFor(0, 20), 254 * 256 + 1);
    }

    private static void kindFor() {
        Sentence s = new Sentence("Promise 23", "KIND FOR one, n (1 to 30). BAD.");
        refusesAllBut(s, 1, 30, TruthRope::kindFor);
        s.gives("by 1", Busy.circus().kindFor(0, 1), 4).gives("by 30", Busy.circus().kindFor(0, 30), 0);
    }

    private static void turnedFor() {
        Sentence s = new Sentence("Promise 24", "TURNED FOR one, n (1 to 30). BAD; NONE: with none.");
        refusesAllBut(s, 1, 30, TruthRope::turnedFor);
        s.refuses("one that goes as it is", x -> x.turnedFor(0, 30), NONE);
        s.refuses("one that has FALLEN", x -> x.turnedFor(Busy.FALLEN_ONE, 30), NONE);
        s.refuses("one ACROSS", x -> x.turnedFor(Busy.ACROSS_ONE, 1), NONE);
        TruthRope x = Busy.circus();
        x.say(4, 1, 3 ^ 1);
        s.gives("a saint, by 1", x.turnedFor(4, 1), 1);
        x.stand(4, 18);
        s.gives("a saint that is near, by 1", x.turnedFor(4, 1), NONE);
    }

    private static void loadFor() {
        Sentence s = new Sentence("Promise 25", "LOAD FOR one, n (1 to 30). BAD; NONE: with none.");
        refusesAllBut(s, 1, 30, TruthRope::loadFor);
        s.refuses("one that has FALLEN", x -> x.loadFor(Busy.FALLEN_ONE, 30), NONE);
        s.refuses("too few STEPS", x -> x.loadFor(0, 14), NONE);
        s.refuses("a thinker", x -> x.loadFor(5, 30), NONE);
        s.gives("just enough", Busy.circus().loadFor(0, 15), 18);
        s.gives("one ACROSS", Busy.circus().loadFor(Busy.ACROSS_ONE, 1), 99);
        TruthRope x = new TruthRope();
        x.walker(1, 50);
        s.gives("of nothing", x.loadFor(0, 10), 0);
        x.say(0, 0, 1);
        s.gives("of less than nothing", x.loadFor(0, 10), NONE);
    }

    private static void both() {
        Sentence s = new Sentence("Promise 26", "AGREED by two (what 0), CLASH (1). BAD: also one and the same.");
        TruthRope x = Busy.circus();
        s.gives("AGREED", x.both(0, 4, 0), 1).gives("CLASH", x.both(0, 4, 1), 0)
            .gives("the first and the last", x.both(0, 5, 0), 0).gives("the last and the first", x.both(5, 0, 1), 0)
            .refusesEach("both(v, 0, 0)", Sentence.outside(0, 5), (y, v) -> y.both(v, 0, 0), BAD)
            .refusesEach("both(0, v, 0)", Sentence.outside(0, 5), (y, v) -> y.both(0, v, 0), BAD)
            .refusesEach("both(0, 1, v)", Sentence.outside(0, 1), (y, v) -> y.both(0, 1, v), BAD)
            .refusesEach("one and the same, AGREED", Sentence.numbers(0, 1, 2, 3, 4, 5), (y, v) -> y.both(v, v, 0), BAD)
            .refusesEach("one and the same, CLASH", Sentence.numbers(0, 1, 2, 3, 4, 5), (y, v) -> y.both(v, v, 1), BAD)
            .refuses(Busy::withoutWalkers, "without WALKERS", y -> y.both(0, 1, 0), BAD);
    }

    private static void fits() {
        Sentence s = new Sentence("Promise 27", "FITS: what = 0 how many sets, 1 the least. BAD: no such SHEET, one,"
            + " what; -11; NONE (what 1): none.");
        s.refusesEach("fits(v, 0, 0)", Sentence.outside(0, 3), (x, v) -> x.fits(v, 0, 0), BAD)
            .refusesEach("fits(0, v, 0)", Sentence.outside(0, 5), (x, v) -> x.fits(0, v, 0), BAD)
            .refusesEach("fits(0, 0, v)", Sentence.outside(0, 1), (x, v) -> x.fits(0, 0, v), BAD)
            .refuses(Busy::withoutWalkers, "without WALKERS", x -> x.fits(0, 0, 0), BAD)
            .refusesEach("a missing SHEET", Sentence.numbers(0, 1), (x, v) -> x.fits(Busy.MISSING_SHEET, 0, v), -11)
            .refuses("no set, the least", x -> x.fits(Busy.BYTES_SHEET, 0, 1), NONE)
            .gives("no set, how many", Busy.circus().fits(Busy.BYTES_SHEET, 0, 0), 0);
        TruthRope x = Busy.circus();
        for (int sheet = 0; sheet < 4; sheet++) {
            x.sheet(sheet, sheet, 1);
            x.put(sheet, 0, 6);
            s.gives("SHEET " + sheet + ", how many", x.fits(sheet, 0, 0), 32).gives("the least", x.fits(sheet, 0, 1), 3);
            x.sheet(sheet, sheet, 0);
            s.gives("of none, of the last one", x.fits(sheet, 5, 0), 256).gives("the least", x.fits(sheet, 5, 1), 0);
        }
    }

    private static void odds() {
        Sentence s = new Sentence("Promise 28", "ODDS by n (0 to 8), k (0 to n): a part of them. BAD.");
        s.refusesEach("odds(v, 0, 0)", Sentence.outside(0, 8), (x, v) -> x.odds(v, 0, 0), BAD);
        for (int i = 0; i <= 8; i++) {
            int n = i;
            s.refusesEach("odds(" + n + ", v, 1)", Sentence.outside(0, n), (x, v) -> x.odds(n, v, 1), BAD);
            s.refusesEach("odds(" + n + ", 0, v)", Sentence.outside(0, 1), (x, v) -> x.odds(n, 0, v), BAD);
            long five = 1;
            for (int j = 0; j < n; j++) {
                five *= 5;
            }
            TruthRope x = new TruthRope();
            s.gives("none of " + n + ", above", x.odds(n, 0, 0), 1L << 2 * n).gives("below", x.odds(n, 0, 1), five)
                .gives("all of " + n + ", above", x.odds(n, n, 0), 1).gives("below", x.odds(n, n, 1), five);
        }
    }

    private static void hope() {
        Sentence s = new Sentence("Promise 29", "HOPE by n (0 to 99): a part of it. BAD.");
        TruthRope x = new TruthRope();
        s.gives("by 0, above", x.hope(0, 0), 0).gives("by 0, below", x.hope(0, 1), 1)
            .gives("by 99, above", x.hope(99, 0), 99).gives("by 99, below", x.hope(99, 1), 5)
            .gives("by 95, above", x.hope(95, 0), 19).gives("by 95, below", x.hope(95, 1), 1)
            .refusesEach("hope(v, 0)", Sentence.outside(0, 99), (y, v) -> y.hope(v, 0), BAD)
            .refusesEach("hope(v, 1)", Sentence.outside(0, 99), (y, v) -> y.hope(v, 1), BAD)
            .refusesEach("hope(1, v)", Sentence.outside(0, 1), (y, v) -> y.hope(1, v), BAD);
    }

    private static void prove() {
        Sentence s = new Sentence("Promise 30", "ROWS of one by n STEPS (1 to 10): how many. BAD.");
        refusesAllBut(s, 1, 10, TruthRope::prove);
        for (int n = 1; n <= 10; n++) {
            TruthRope x = Busy.circus();
            s.gives("prove(0, " + n + ")", x.prove(0, n), n).gives("ROWS", x.many(4), n)
                .gives("the last", x.row(n - 1, 0), 5 + n).gives("none behind it", x.row(n, 0), -9);
        }
        TruthRope x = Busy.circus();
        x.prove(0, 10);
        s.gives("fewer behind more", x.prove(0, 1), 1).gives("ROWS", x.many(4), 1).gives("no second", x.row(1, 0), -9);
    }

    private static TruthRope withoutRows() {
        TruthRope x = Busy.withoutTape();
        Check.circus(x, "walker;clown at 20;");
        Check.feed(x, Busy.ON_THE_TAPE);
        return x;
    }

    private static void row() {
        Sentence s = new Sentence("Promise 31", "Of ROW i: what = 0 its PLACE, 1 whether it has FALLEN, 2 how many are"
            + " ACROSS. -9: there is none such, another what.");
        TruthRope x = Busy.circus();
        s.gives("the first, PLACE", x.row(0, 0), 6).gives("the first, FALLEN", x.row(0, 1), 0)
            .gives("the first, ACROSS", x.row(0, 2), 1).gives("the last, PLACE", x.row(3, 0), 9)
            .gives("the last, ACROSS", x.row(3, 2), 1)
            .refusesEach("row(v, 0)", Sentence.outside(0, 3), (y, v) -> y.row(v, 0), -9)
            .refusesEach("row(v, 2)", Sentence.outside(0, 3), (y, v) -> y.row(v, 2), -9)
            .refusesEach("row(0, v)", Sentence.outside(0, 2), (y, v) -> y.row(0, v), -9)
            .refusesEach("row(3, v)", Sentence.outside(0, 2), (y, v) -> y.row(3, v), -9)
            .refusesEach("row(v, 0), by products that wrap", Sentence.numbers(715827883, 1431655766, -1431655765),
                (y, v) -> y.row(v, 0), -9)
            .refusesEach(EdgesOfPromises18To33::withoutRows, "without ROWS", Sentence.numbers(0, -1, 1),
                (y, v) -> y.row(v, 0), -9);
        x.prove(Busy.FALLEN_ONE, 10);
        s.gives("the tenth, FALLEN", x.row(9, 1), 1).gives("no eleventh", x.row(10, 0), -9);
    }

    private static void alterRow() {
        Sentence s = new Sentence("Promise 32", "It becomes v: what it was. -9 likewise.");
        TruthRope x = Busy.circus();
        for (int v : new int[] {Integer.MIN_VALUE, Integer.MAX_VALUE, -9, 21}) {
            int was = x.row(3, 2);
            s.gives("alterRow(3, 2, " + v + ")", x.alterRow(3, 2, v), was).gives("then", x.row(3, 2), v);
        }
        s.gives("the first", x.alterRow(0, 0, -1), 6).gives("then", x.row(0, 0), -1).gives("beside it", x.row(0, 1), 0)
            .gives("the one behind it", x.row(1, 0), 7)
            .refusesEach("alterRow(v, 0, 5)", Sentence.outside(0, 3), (y, v) -> y.alterRow(v, 0, 5), -9)
            .refusesEach("alterRow(v, 2, 5)", Sentence.outside(0, 3), (y, v) -> y.alterRow(v, 2, 5), -9)
            .refusesEach("alterRow(0, v, 5)", Sentence.outside(0, 2), (y, v) -> y.alterRow(0, v, 5), -9)
            .refusesEach("alterRow(3, v, 5)", Sentence.outside(0, 2), (y, v) -> y.alterRow(3, v, 5), -9)
            .refusesEach(EdgesOfPromises18To33::withoutRows, "without ROWS", Sentence.numbers(0, -1, 1),
                (y, v) -> y.alterRow(v, 0, 5), -9);
    }

    private static void judge() {
        Sentence s = new Sentence("Promise 33", "THE READER takes ROWS: 0 all is right (also if there are none); else the"
            + " first ROW that isn't, and 1 more. BAD.");
        s.gives("what was altered", Busy.circus().judge(0), 3)
            .gives("without ROWS", withoutRows().judge(0), 0)
            .gives("of a new object's first", withOne().judge(0), 0)
            .refusesEach("judge(v)", Sentence.outside(0, 5), (x, v) -> x.judge(v), BAD)
            .refuses(Busy::withoutWalkers, "without WALKERS", x -> x.judge(0), BAD);
        TruthRope x = Busy.circus();
        x.prove(0, 10);
        s.gives("ten that are right", x.judge(0), 0);
        x.alterRow(9, 2, -1);
        s.gives("the last isn't", x.judge(0), 10);
        x.alterRow(0, 0, -1);
        s.gives("the first isn't", x.judge(0), 1);
        x.prove(0, 1);
        s.gives("one that is right", x.judge(0), 0);
        x.alterRow(0, 1, 1);
        s.gives("one that isn't", x.judge(0), 1);
    }

    private static TruthRope withOne() {
        TruthRope x = new TruthRope();
        x.walker(0, 0);
        return x;
    }
}
