/** The boundaries that promises 1 to 17 name, call by call. */
final class EdgesOfPromises1To17 {
    private static final int BAD = TruthRope.BAD, FULL = TruthRope.FULL, NONE = TruthRope.NONE;

    private EdgesOfPromises1To17() {
    }

    static void look() {
        aNewObject();
        feed();
        circus();
        set();
        lawOf();
        fact();
        walker();
        of();
        does();
        mind();
        say();
        stand();
        steps();
        seed();
        step();
        luck();
        state();
    }

    private static void aNewObject() {
        TruthRope x = new TruthRope();
        Sentence s = new Sentence("Promise 1", "No WALKERS; nothing is kept.");
        for (int what = 0; what <= 6; what++) {
            s.gives("many(" + what + ")", x.many(what), 0);
        }
        for (int what = 0; what <= 5; what++) {
            s.gives("state(" + what + ")", x.state(what), 0);
        }
        s.gives("of(0, 0)", x.of(0, 0), BAD).gives("end()", x.end(), 0).gives("again()", x.again(), NONE);
        s.refuses(TruthRope::new, "again()", TruthRope::again, NONE);
    }

    private static void feed() {
        Sentence n = new Sentence("Promise 2", "n bytes (1 to 8) come to THE TAPE, the lowest of eight first: how many"
            + " it has. BAD;");
        n.refusesEach("feed(.., v)", Sentence.outside(1, 8), (x, v) -> x.feed(-1L, v), BAD);
        n.refusesEach(TruthRope::new, "feed(.., v)", Sentence.numbers(0, 9), (x, v) -> x.feed(0, v), BAD);
        long eight = 0x3b37207469777e7eL;
        TruthRope x = new TruthRope();
        n.gives("the highest of n last", x.feed(eight >>> 16, 6), 6).gives("'wit 7;'", x.circus(), 0)
            .gives("WIT", x.lawOf(2), 7);
        n.gives("the lowest alone", x.feed(0x20L | -256L, 1), 1).gives("a blank", x.circus(), 0);
        n.gives("eight of them", x.feed(0x3b37207469772020L, 8), 8).gives("'  wit 7;'", x.circus(), 0)
            .gives("WIT", x.lawOf(2), 7);
        n.gives("seven of them", x.feed(0xff3b392074697720L, 7), 7).gives("' wit 9;'", x.circus(), 0)
            .gives("WIT", x.lawOf(2), 9);
        n.gives("all the highest bits", x.feed(-1L, 8), 8).gives("a FAULT", x.circus(), -100);
        n.gives("1 byte", x.feed(0x20, 1), 1).gives("2 more", x.feed(0x2020, 2), 3).gives("then", x.many(5), 3);
        Sentence full = new Sentence("Promise 2", "FULL: more than 200.");
        full.gives("just 200", Busy.withTapeOf(192).feed(0x2020202020202020L, 8), 200);
        full.gives("just 200 by one", Busy.withTapeOf(199).feed(0x20, 1), 200);
        full.refuses(() -> Busy.withTapeOf(193), "201", y -> y.feed(0x2020202020202020L, 8), FULL);
        full.refuses(() -> Busy.withTapeOf(200), "201 by one", y -> y.feed(0x20, 1), FULL);
        full.refuses(() -> Busy.withTapeOf(200), "208", y -> y.feed(0x2020202020202020L, 8), FULL);
    }

    private static void circus() {
        Sentence s = new Sentence("Promise 3", "THE TAPE becomes all: how many WALKERS; -100 less its FAULT.");
        s.gives("an empty TAPE", new TruthRope().circus(), 0)
            .gives("none", Check.circus(new TruthRope(), "wit 1;"), 0)
            .gives("one", Check.circus(new TruthRope(), "walker;"), 1)
            .gives("eight", Check.circus(new TruthRope(), "walker;".repeat(8)), 8)
            .gives("a ninth", Check.circus(new TruthRope(), "walker;".repeat(9)), -156)
            .gives("a FAULT at 0", Check.circus(new TruthRope(), "!"), -100)
            .gives("a FAULT at 199", Check.circus(new TruthRope(), " ".repeat(199) + "!"), -299)
            .gives("a FAULT at the end of 200", Check.circus(new TruthRope(), " ".repeat(194) + "walker"), -300);
        s.refuses(Busy::withoutTape, "a FAULT", x -> Check.circus(x, "walker;plank 0;fact 7;doubt 100;"), -128);
        s.refuses(Busy::withoutTape, "a FAULT at the end", x -> Check.circus(x, "walker;plank 0"), -114);
        s.refuses(Busy::withoutTape, "a FAULT in a ninth", x -> Check.circus(x, "saint;".repeat(9)), -148);
        TruthRope rows = Busy.withoutTape();
        Sentence gone = new Sentence("Promise 3", "There are no ROWS then, but by a FAULT.");
        gone.gives("a FAULT", Check.circus(rows, "walker"), -106).gives("ROWS stay", rows.many(4), Busy.ROWS)
            .gives("ROW 3 stays", rows.row(3, 2), 1).gives("what was altered stays", rows.row(2, 1), 77);
        gone.gives("a good text", Check.circus(rows, "walker;"), 1).gives("no ROWS", rows.many(4), 0)
            .gives("nor the first", rows.row(0, 0), -9).gives("nor to alter", rows.alterRow(0, 0, 1), -9)
            .gives("all is right without them", rows.judge(0), 0);
    }

    private static void set() {
        Sentence s = new Sentence("Promise 4", "A LAW becomes v: what it was. BAD.");
        s.refusesEach("set(v, 0)", Sentence.outside(0, 3), (x, v) -> x.set(v, 0), BAD);
        int[] most = {9, 9, 9, 99};
        int[] was = {6, 4, 3, 33};
        for (int i = 0; i < 4; i++) {
            int law = i;
            s.gives("LAW " + law + " to 0", Busy.circus().set(law, 0), was[law]);
            s.gives("LAW " + law + " to the most", Busy.circus().set(law, most[law]), was[law]);
            s.refusesEach("set(" + law + ", v)", Sentence.outside(0, most[law]), (x, v) -> x.set(law, v), BAD);
            TruthRope x = Busy.circus();
            x.set(law, most[law]);
            for (int other = 0; other < 4; other++) {
                s.gives("LAW " + other + " then", x.lawOf(other), other == law ? most[law] : was[other]);
            }
        }
    }

    private static void lawOf() {
        new Sentence("Promise 5", "A LAW. BAD.")
            .gives("the first", Busy.circus().lawOf(0), 6)
            .gives("the last", Busy.circus().lawOf(3), 33)
            .refusesEach("lawOf(v)", Sentence.outside(0, 3), (x, v) -> x.lawOf(v), BAD);
    }

    private static void fact() {
        Sentence s = new Sentence("Promise 6", "A FACT is SO (v 1), or not (0): 1 if it was, else 0. BAD.");
        for (int i = 0; i < 8; i++) {
            int fact = i;
            int was = fact < 2 ? 1 : 0;
            TruthRope x = Busy.circus();
            s.gives("fact(" + fact + ", 1)", x.fact(fact, 1), was)
                .gives("the set then", x.state(3), 3 | 1 << fact)
                .gives("the same again", x.fact(fact, 1), 1)
                .gives("fact(" + fact + ", 0)", x.fact(fact, 0), 1)
                .gives("the set then", x.state(3), 3 & ~(1 << fact))
                .gives("the same again", x.fact(fact, 0), 0)
                .refusesEach("fact(" + fact + ", v)", Sentence.outside(0, 1), (y, v) -> y.fact(fact, v), BAD);
        }
        s.refusesEach("fact(v, 0)", Sentence.outside(0, 7), (y, v) -> y.fact(v, 0), BAD);
        s.refusesEach("fact(v, 1)", Sentence.outside(0, 7), (y, v) -> y.fact(v, 1), BAD);
    }

    private static void walker() {
        Sentence s = new Sentence("Promise 7", "One more, at PLACE 0: its number. BAD; FULL.");
        TruthRope x = Busy.circus();
        s.gives("KIND 0 of 0", x.walker(0, 0), 6).gives("KIND 5 of 99", x.walker(5, 99), 7)
            .gives("at PLACE 0", x.of(6, 2) + x.of(7, 2), 0).gives("a ninth", x.walker(0, 0), FULL);
        s.refusesEach("walker(v, 0)", Sentence.outside(0, 5), (y, v) -> y.walker(v, 0), BAD);
        s.refusesEach("walker(0, v)", Sentence.outside(0, 99), (y, v) -> y.walker(0, v), BAD);
        for (int kind = 0; kind < 6; kind++) {
            int ninth = kind;
            s.refuses(Busy::withEightWalkers, "a ninth of KIND " + kind, y -> y.walker(ninth, 99), FULL);
        }
        TruthRope back = Busy.circus();
        back.again();
        asNew(s, back, 2);
        TruthRope told = new TruthRope();
        Check.circus(told, "saint weight 99 at 9 says 3 denies 4;".repeat(5));
        told.steps(1);
        Check.circus(told, "walker weight 1 at 3;");
        asNew(s, told, 1);
        for (int i = 0; i < 8; i++) {
            told.say(i, 1, 128);
            told.stand(i, 20 - i);
        }
        Check.circus(told, "");
        asNew(s, told, 0);
        TruthRope fallen = new TruthRope();
        fallen.keep();
        Check.circus(fallen, "walker says 1 denies 2;clown says 4;");
        fallen.steps(1);
        fallen.again();
        asNew(s, fallen, 0);
    }

    /** All that come where others had been are as new ones are. */
    private static void asNew(Sentence s, TruthRope x, int has) {
        for (int i = has; i < 8; i++) {
            s.gives("where others had been", x.walker(0, 1), i);
            for (int what = 2; what <= 5; what++) {
                s.gives("of " + i + ", what " + what, x.of(i, what), 0);
            }
        }
    }

    private static void of() {
        Sentence s = new Sentence("Promise 8", "Of one: what = 0 KIND, 1 WEIGHT, 2 PLACE, 3 YES, 4 NO (as sets), 5 1 if"
            + " it has FALLEN, else 0. BAD.");
        int[] first = {0, 9, 5, 3, 8, 0};
        int[] fallen = {1, 99, 5, 0, 0, 1};
        int[] last = {5, 10, 3, 0, 0, 0};
        for (int what = 0; what <= 5; what++) {
            s.gives("of the first, " + what, Busy.circus().of(0, what), first[what]);
            s.gives("of one that has FALLEN, " + what, Busy.circus().of(Busy.FALLEN_ONE, what), fallen[what]);
            s.gives("of the last, " + what, Busy.circus().of(5, what), last[what]);
        }
        s.refusesEach("of(v, 0)", Sentence.outside(0, 5), (x, v) -> x.of(v, 0), BAD);
        s.refusesEach("of(0, v)", Sentence.outside(0, 5), (x, v) -> x.of(0, v), BAD);
        s.refusesEach(Busy::withoutWalkers, "of(v, 0)", Sentence.numbers(0, -1, 7), (x, v) -> x.of(v, 0), BAD);
    }

    private static void does() {
        Sentence s = new Sentence("Promise 9", "1000, and to that what one BEARS (what 0), STRIDES (1), has RIGHT (2),"
            + " WRONG (3) now (whether it has FALLEN or not). BAD.");
        TruthRope x = Busy.circus();
        s.gives("BEARS", x.does(0, 0), 1018).gives("STRIDES", x.does(0, 1), 1001)
            .gives("RIGHT", x.does(0, 2), 1003).gives("WRONG", x.does(0, 3), 1000)
            .gives("one that has FALLEN BEARS", x.does(Busy.FALLEN_ONE, 0), 1000)
            .gives("one that has FALLEN STRIDES", x.does(Busy.FALLEN_ONE, 1), 1002)
            .gives("one ACROSS BEARS", x.does(Busy.ACROSS_ONE, 0), 1016)
            .gives("one ACROSS STRIDES", x.does(Busy.ACROSS_ONE, 1), 1001)
            .refusesEach("does(v, 0)", Sentence.outside(0, 5), (y, v) -> y.does(v, 0), BAD)
            .refusesEach("does(0, v)", Sentence.outside(0, 3), (y, v) -> y.does(0, v), BAD)
            .refuses(Busy::withoutWalkers, "does(0, 0)", y -> y.does(0, 0), BAD);
    }

    private static void mind() {
        Sentence s = new Sentence("Promise 10", "One becomes one of another KIND, with another WEIGHT (also the same):"
            + " the KIND that it was. BAD.");
        TruthRope x = Busy.circus();
        s.gives("the last, KIND 0 of 0", x.mind(5, 0, 0), 5).gives("its KIND", x.of(5, 0), 0)
            .gives("its WEIGHT", x.of(5, 1), 0)
            .gives("the first, KIND 5 of 99", x.mind(0, 5, 99), 0).gives("its KIND", x.of(0, 0), 5)
            .gives("its WEIGHT", x.of(0, 1), 99).gives("the same", x.mind(0, 5, 99), 5)
            .gives("its PLACE stays", x.of(0, 2), 5).gives("its YES stays", x.of(0, 3), 3)
            .gives("its NO stays", x.of(0, 4), 8)
            .gives("one that has FALLEN", x.mind(Busy.FALLEN_ONE, 1, 0), 1)
            .gives("has FALLEN still", x.of(Busy.FALLEN_ONE, 5), 1)
            .refusesEach("mind(v, 1, 1)", Sentence.outside(0, 5), (y, v) -> y.mind(v, 1, 1), BAD)
            .refusesEach("mind(0, v, 1)", Sentence.outside(0, 5), (y, v) -> y.mind(0, v, 1), BAD)
            .refusesEach("mind(0, 1, v)", Sentence.outside(0, 99), (y, v) -> y.mind(0, 1, v), BAD)
            .refuses(Busy::withoutWalkers, "mind(0, 1, 1)", y -> y.mind(0, 1, 1), BAD);
    }

    private static void say() {
        Sentence s = new Sentence("Promise 11", "Its SAYING: these FACTS are SO, these are not (sets): of how many FACTS"
            + " it was till then. BAD: also a FACT in both.");
        TruthRope x = Busy.circus();
        s.gives("all SO", x.say(0, 255, 0), 3).gives("YES", x.of(0, 3), 255).gives("NO", x.of(0, 4), 0)
            .gives("none SO", x.say(0, 0, 255), 8).gives("YES", x.of(0, 3), 0).gives("NO", x.of(0, 4), 255)
            .gives("each in one", x.say(0, 128, 127), 8).gives("of none", x.say(0, 0, 0), 8)
            .gives("of none till then", x.say(0, 0, 0), 0)
            .gives("the last one", x.say(5, 1, 128), 0).gives("of two", x.say(5, 0, 0), 2)
            .refusesEach("say(v, 1, 2)", Sentence.outside(0, 5), (y, v) -> y.say(v, 1, 2), BAD)
            .refusesEach("say(0, v, 0)", Sentence.outside(0, 255), (y, v) -> y.say(0, v, 0), BAD)
            .refusesEach("say(0, 0, v)", Sentence.outside(0, 255), (y, v) -> y.say(0, 0, v), BAD)
            .refuses(Busy::withoutWalkers, "say(0, 1, 2)", y -> y.say(0, 1, 2), BAD);
        for (int fact = 0; fact < 8; fact++) {
            int both = 1 << fact;
            s.refuses("FACT " + fact + " in both", y -> y.say(0, both, both), BAD);
            s.refuses("FACT " + fact + " in both, among all", y -> y.say(0, 255, both), BAD);
        }
    }

    private static void stand() {
        Sentence s = new Sentence("Promise 12", "It is at a PLACE (0 to 20), and has not FALLEN: its PLACE till then."
            + " BAD.");
        TruthRope x = Busy.circus();
        s.gives("at 0", x.stand(0, 0), 5).gives("its PLACE", x.of(0, 2), 0)
            .gives("at 20", x.stand(0, 20), 0).gives("its PLACE", x.of(0, 2), 20)
            .gives("ACROSS", x.state(1), 5).gives("at 20 again", x.stand(0, 20), 20)
            .gives("the last one", x.stand(5, 19), 3)
            .gives("one that has FALLEN", x.stand(Busy.FALLEN_ONE, 5), 5)
            .gives("has not", x.of(Busy.FALLEN_ONE, 5), 0).gives("nobody has", x.state(2), 0)
            .refusesEach("stand(v, 1)", Sentence.outside(0, 5), (y, v) -> y.stand(v, 1), BAD)
            .refusesEach("stand(0, v)", Sentence.outside(0, 20), (y, v) -> y.stand(0, v), BAD)
            .refusesEach("one that has FALLEN, stand(1, v)", Sentence.outside(0, 20),
                (y, v) -> y.stand(Busy.FALLEN_ONE, v), BAD)
            .refuses(Busy::withoutWalkers, "stand(0, 1)", y -> y.stand(0, 1), BAD);
    }

    private static void steps() {
        Sentence s = new Sentence("Promise 13", "n STEPS (1 to 60): how many are ACROSS then. BAD.");
        TruthRope x = Busy.circus();
        s.gives("1", x.steps(1), 1).gives("STEP", x.state(0), 3)
            .gives("60", x.steps(60), 4).gives("STEP", x.state(0), 63)
            .refusesEach("steps(v)", Sentence.outside(1, 60), (y, v) -> y.steps(v), BAD)
            .refusesEach(Busy::withoutWalkers, "steps(v)", Sentence.numbers(0, 61, -1), (y, v) -> y.steps(v), BAD)
            .gives("without WALKERS", new TruthRope().steps(60), 0);
        TruthRope eight = new TruthRope();
        for (int i = 0; i < 8; i++) {
            eight.walker(0, 0);
        }
        s.gives("19", eight.steps(19), 0).gives("all eight", eight.steps(1), 8);
    }

    private static void seed() {
        TruthRope x = new TruthRope();
        Sentence s = new Sentence("Promise 14", "z becomes v: what it was.");
        int was = 1;
        for (int v : new int[] {0, -1, Integer.MAX_VALUE, Integer.MIN_VALUE, 65536, -3, 1}) {
            s.gives("seed(" + v + ")", x.seed(v), was);
            was = v;
        }
        s.gives("then", x.seed(0), 1);
    }

    private static void step() {
        Sentence s = new Sentence("Promise 15", "A STEP BY DRAWS: how many are ACROSS then.");
        TruthRope x = new TruthRope();
        s.gives("without WALKERS", x.step(), 0).gives("STEP", x.state(0), 1);
        for (int i = 0; i < 8; i++) {
            x.walker(0, 0);
            x.stand(i, 18);
        }
        s.gives("at 19", x.step(), 0).gives("all eight", x.step(), 8).gives("all eight still", x.step(), 8);
        TruthRope y = new TruthRope();
        y.set(3, 0);
        for (int i = 0; i < 200; i++) {
            y.step();
        }
        s.gives("no FACT by a DOUBT of 0", y.state(3), 0);
    }

    private static void luck() {
        Sentence s = new Sentence("Promise 16", "LUCK (n 1 to 30). BAD.");
        s.refusesEach("luck(v)", Sentence.outside(1, 30), (x, v) -> x.luck(v), BAD);
        s.refusesEach(Busy::withoutWalkers, "luck(v)", Sentence.numbers(0, 31), (x, v) -> x.luck(v), BAD);
        TruthRope x = Busy.circus();
        s.holds("1", x.luck(1) >= 0 && x.luck(1) <= 1);
        s.holds("30", x.luck(30) >= 0 && x.luck(30) <= 30);
        TruthRope y = new TruthRope();
        y.walker(0, 64);
        y.say(0, 0, 255);
        y.set(3, 99);
        s.gives("1, of one that is doubted nearly always", y.luck(1), 1);
        s.gives("30, of one that is doubted nearly always", y.luck(30), 30);
    }

    private static void state() {
        Sentence s = new Sentence("Promise 17", "What = 0 STEP, 1 those ACROSS, as a set, 2 those that have FALLEN, as a"
            + " set, 3 the FACTS that are SO, as a set, 4 PLACES of all together, 5 HELD. BAD.");
        int[] busy = {2, 4, 2, 3, 49, 6};
        int[] without = {3, 0, 0, 4, 0, 0};
        for (int what = 0; what <= 5; what++) {
            s.gives("state(" + what + ")", Busy.circus().state(what), busy[what]);
            s.gives("state(" + what + ") without WALKERS", Busy.withoutWalkers().state(what), without[what]);
        }
        s.refusesEach("state(v)", Sentence.outside(0, 5), (x, v) -> x.state(v), BAD);
        TruthRope x = new TruthRope();
        for (int i = 0; i < 8; i++) {
            x.walker(0, 99);
            x.stand(i, 20);
            x.fact(i, 1);
        }
        s.gives("all eight ACROSS", x.state(1), 255).gives("PLACES of all", x.state(4), 160)
            .gives("all FACTS", x.state(3), 255);
        for (int i = 0; i < 8; i++) {
            x.stand(i, 0);
        }
        x.steps(1);
        s.gives("all eight FALLEN", x.state(2), 255).gives("PLACES of all", x.state(4), 0);
    }
}
