/** The boundaries that part 1 names: LAWS, FACTS, SAYINGS, WALKERS, what they BEAR and STRIDE, STEPS. */
final class EdgesOfLaws {
    private EdgesOfLaws() {
    }

    static void look() {
        laws();
        facts();
        sayings();
        eightWalkers();
        whatOneIsAtFirst();
        bearing();
        thinking();
        striding();
        across();
        aStep();
        theRest();
    }

    private static void laws() {
        law("0 PLANK (0 to 9; 8 at first)", 0, 9, 8);
        law("1 BUT (0 to 9; 3)", 1, 9, 3);
        law("2 WIT (0 to 9; 2)", 2, 9, 2);
        law("3 DOUBT (0 to 99 of a hundred; 20)", 3, 99, 20);
        new Sentence("1", "STEP (0 at first)").gives("of a new object", new TruthRope().state(0), 0);
    }

    private static void law(String words, int law, int most, int first) {
        TruthRope x = new TruthRope();
        new Sentence("1", words)
            .gives("at first", x.lawOf(law), first)
            .gives("set to 0", x.set(law, 0), first)
            .gives("then", x.lawOf(law), 0)
            .gives("set to the most", x.set(law, most), 0)
            .gives("then", x.lawOf(law), most)
            .gives("set to one below the most", x.set(law, most - 1), most)
            .refusesEach("set(" + law + ", v)", Sentence.outside(0, most), (y, v) -> y.set(law, v), TruthRope.BAD);
    }

    private static void facts() {
        TruthRope x = new TruthRope();
        new Sentence("1", "FACTS 0 to 7, each SO or not (none is at first).")
            .gives("at first", x.state(3), 0)
            .gives("FACT 0", x.fact(0, 1), 0)
            .gives("FACT 7", x.fact(7, 1), 0)
            .gives("these two", x.state(3), 129)
            .refusesEach("fact(v, 1)", Sentence.outside(0, 7), (y, v) -> y.fact(v, 1), TruthRope.BAD);
        for (int fact = 1; fact < 7; fact++) {
            x.fact(fact, 1);
        }
        new Sentence("1", "FACTS 0 to 7").gives("all", x.state(3), 255).gives("so many", x.many(3), 8);
    }

    private static void sayings() {
        new Sentence("1", "no FACT in both")
            .refuses("FACT 0 in both", x -> x.say(0, 1, 1), TruthRope.BAD)
            .refuses("FACT 7 in both", x -> x.say(0, 128, 129), TruthRope.BAD)
            .refuses("all in both", x -> x.say(0, 255, 255), TruthRope.BAD)
            .gives("in none", Busy.circus().say(0, 0, 0), 3)
            .gives("all in YES", Busy.circus().say(0, 255, 0), 3)
            .gives("all in NO", Busy.circus().say(0, 0, 255), 3)
            .gives("each in one", Busy.circus().say(0, 85, 170), 3);
        TruthRope x = all(0, 0);
        new Sentence("1", "RIGHT: how many of both it says as they are; WRONG: how many it doesn't.")
            .gives("of a SAYING of none, RIGHT", x.does(0, 2), 1000)
            .gives("of a SAYING of none, WRONG", x.does(0, 3), 1000);
        x.say(0, 255, 0);
        new Sentence("1", "RIGHT: how many").gives("all", x.does(0, 2), 1008).gives("none WRONG", x.does(0, 3), 1000);
        x.say(0, 0, 255);
        new Sentence("1", "WRONG: how many").gives("all", x.does(0, 3), 1008).gives("none RIGHT", x.does(0, 2), 1000);
        x.say(0, 128, 1);
        new Sentence("1", "WRONG: how many it doesn't").gives("FACT 7", x.does(0, 2), 1001).gives("FACT 0", x.does(0, 3), 1001);
    }

    /** One of a KIND, at PLACE 0, in a circus in which each FACT is SO. */
    private static TruthRope all(int kind, int weight) {
        TruthRope x = new TruthRope();
        for (int fact = 0; fact < 8; fact++) {
            x.fact(fact, 1);
        }
        x.walker(kind, weight);
        return x;
    }

    private static void eightWalkers() {
        TruthRope x = new TruthRope();
        Sentence s = new Sentence("1", "WALKERS, 8 at most, numbered as they come");
        s.gives("without any", x.many(0), 0);
        s.gives("none is numbered 0", x.of(0, 0), TruthRope.BAD);
        for (int i = 0; i < 8; i++) {
            s.gives("number " + i, x.walker(i % 6, i), i);
            s.gives("WEIGHT of number " + i, x.of(i, 1), i);
            s.gives("none is numbered more", x.of(i + 1, 0), TruthRope.BAD);
        }
        s.gives("a ninth", x.walker(0, 0), TruthRope.FULL);
        s.refuses(Busy::withEightWalkers, "a ninth", y -> y.walker(0, 0), TruthRope.FULL);
        Sentence kinds = new Sentence("1", "each of a KIND: 0 walker; 1 clown, 2 child, 5 thinker (under walker);"
            + " 3 jester (under clown); 4 saint (under child)");
        int[][] under = {{0}, {0, 1}, {0, 2}, {0, 1, 3}, {0, 2, 4}, {0, 5}};
        for (int kind = 0; kind < 6; kind++) {
            x.mind(0, kind, 0);
            x.shelf(0, 0, 0);
            for (int as = 0; as < 6; as++) {
                int asKind = as;
                boolean isUnder = java.util.Arrays.stream(under[kind]).anyMatch(k -> k == asKind);
                kinds.gives("KIND " + kind + " as " + as, x.taken(0, as), isUnder ? 0 : -13);
            }
        }
        kinds.refusesEach("walker(v, 1)", Sentence.outside(0, 5), (y, v) -> y.walker(v, 1), TruthRope.BAD);
        kinds.refusesEach("mind(0, v, 1)", Sentence.outside(0, 5), (y, v) -> y.mind(0, v, 1), TruthRope.BAD);
    }

    private static void whatOneIsAtFirst() {
        TruthRope x = Busy.circus();
        new Sentence("1", "with a WEIGHT (0 to 99)")
            .gives("walker(0, 0)", x.walker(0, 0), 6)
            .gives("its WEIGHT", x.of(6, 1), 0)
            .gives("walker(0, 99)", x.walker(0, 99), 7)
            .gives("its WEIGHT", x.of(7, 1), 99)
            .refusesEach("walker(0, v)", Sentence.outside(0, 99), (y, v) -> y.walker(0, v), TruthRope.BAD)
            .refusesEach("mind(0, 0, v)", Sentence.outside(0, 99), (y, v) -> y.mind(0, 0, v), TruthRope.BAD);
        new Sentence("1", "a SAYING (of no FACTS at first)")
            .gives("YES", x.of(6, 3), 0)
            .gives("NO", x.of(6, 4), 0)
            .gives("of how many", x.say(6, 1, 0), 0);
        new Sentence("1", "a PLACE on the rope (0 to 20; 0 at first)")
            .gives("at first", x.of(6, 2), 0)
            .gives("stand(6, 20)", x.stand(6, 20), 0)
            .gives("stand(6, 0)", x.stand(6, 0), 20)
            .refusesEach("stand(0, v)", Sentence.outside(0, 20), (y, v) -> y.stand(0, v), TruthRope.BAD);
        new Sentence("1", "it has FALLEN, or not")
            .gives("at first", x.of(6, 5), 0)
            .gives("one that has", x.of(Busy.FALLEN_ONE, 5), 1);
    }

    private static void bears(Sentence s, String call, TruthRope x, int want) {
        s.gives(call, x.does(0, 0), 1000 + want);
    }

    private static void bearing() {
        Sentence walker = new Sentence("1", "walker: PLANK for each RIGHT one, less BUT for each WRONG one.");
        Sentence clown = new Sentence("1", "clown: PLANK for each WRONG one, less BUT for each RIGHT one.");
        Sentence jester = new Sentence("1", "jester: as clown, and WIT.");
        Sentence child = new Sentence("1", "child: as walker, and 2 for each FACT that it says nothing of.");
        Sentence saint = new Sentence("1", "saint: twice as a child.");
        Sentence[] of = {walker, clown, child, jester, saint};
        int[] silent = {0, 0, 16, 9, 32};
        int[] allRight = {72, -72, 72, -63, 144};
        int[] allWrong = {-72, 72, -72, 81, -144};
        int[] withoutLaws = {0, 0, 0, 0, 0};
        int[] oneRight = {9, -9, 23, 0, 46};
        for (int kind = 0; kind < 5; kind++) {
            TruthRope x = all(kind, 0);
            x.set(0, 9);
            x.set(1, 9);
            x.set(2, 9);
            bears(of[kind], "of no FACTS", x, silent[kind]);
            x.say(0, 1, 0);
            bears(of[kind], "of one RIGHT", x, oneRight[kind]);
            x.say(0, 255, 0);
            bears(of[kind], "of all RIGHT", x, allRight[kind]);
            x.say(0, 0, 255);
            bears(of[kind], "of all WRONG", x, allWrong[kind]);
            x.set(0, 0);
            x.set(1, 0);
            x.set(2, 0);
            bears(of[kind], "by no LAWS", x, withoutLaws[kind]);
        }
    }

    private static void thinking() {
        Sentence s = new Sentence("1", "thinker: 90, less 10 times its PLACE; less 50, if its SAYING is of any FACT.");
        TruthRope x = all(5, 0);
        int[][] sayings = {{0, 0}, {1, 0}, {128, 0}, {0, 1}, {0, 128}, {255, 0}, {0, 255}};
        for (int place = 0; place <= 20; place++) {
            x.stand(0, place);
            for (int[] said : sayings) {
                x.say(0, said[0], said[1]);
                int less = said[0] + said[1] == 0 ? 0 : 50;
                bears(s, "at " + place + " of " + said[0] + ", " + said[1], x, 90 - 10 * place - less);
            }
        }
    }

    private static void strides(String words, int kind, int even, int odd) {
        TruthRope x = all(kind, 0);
        Sentence s = new Sentence("1", words);
        for (int step = 0; step < 4; step++) {
            s.gives("STEP " + step, x.does(0, 1), 1000 + (step % 2 == 0 ? even : odd));
            x.steps(1);
        }
    }

    private static void striding() {
        strides("STRIDES: walker: 1.", 0, 1, 1);
        strides("clown: as walker, and 1.", 1, 2, 2);
        strides("jester: as clown, and 1, if STEP is even.", 3, 3, 2);
        strides("child: as walker.", 2, 1, 1);
        strides("thinker: as walker.", 5, 1, 1);
        Sentence s = new Sentence("1", "saint: as child, and how many are RIGHT.");
        TruthRope x = all(4, 0);
        for (int right = 0; right <= 8; right++) {
            x.say(0, (1 << right) - 1, 255 & ~((1 << right) - 1));
            s.gives(right + " RIGHT of eight", x.does(0, 1), 1001 + right);
            x.say(0, (1 << right) - 1, 0);
            s.gives(right + " RIGHT of as many", x.does(0, 1), 1001 + right);
        }
    }

    private static void across() {
        TruthRope x = new TruthRope();
        x.walker(0, 0);
        x.stand(0, 19);
        Sentence s = new Sentence("1", "It is ACROSS, if its PLACE is 20.")
            .gives("at 19, as a set", x.state(1), 0)
            .gives("at 19, how many", x.many(1), 0)
            .gives("at 19, behind how many STEPS", x.over(0), 1);
        x.stand(0, 20);
        s.gives("at 20, as a set", x.state(1), 1)
            .gives("at 20, how many", x.many(1), 1)
            .gives("at 20, behind how many STEPS", x.over(0), 0);
        for (int i = 1; i < 8; i++) {
            x.walker(0, 0);
            x.stand(i, 20);
        }
        s.gives("all eight, as a set", x.state(1), 255).gives("all eight, how many", x.many(1), 8);
    }

    /** One of a KIND, whose SAYING makes it BEAR so much, goes if that is its WEIGHT, and falls if it is one less. */
    private static void bearsJust(Sentence s, int kind, int yes, int no, int bears) {
        TruthRope x = all(kind, 0);
        x.say(0, yes, no);
        s.gives("what KIND " + kind + " BEARS", x.does(0, 0), 1000 + bears);
        x.stand(0, 2);
        int bearsThere = x.does(0, 0) - 1000;
        for (int weight = Math.max(0, bearsThere - 1); weight <= Math.min(99, bearsThere + 1); weight++) {
            x.mind(0, kind, weight);
            x.stand(0, 2);
            x.steps(1);
            boolean falls = weight > bearsThere;
            s.gives("KIND " + kind + " of " + weight + " FALLEN", x.of(0, 5), falls ? 1 : 0);
            s.holds("KIND " + kind + " of " + weight + " PLACE", falls ? x.of(0, 2) == 2 : x.of(0, 2) > 2);
        }
    }

    private static void aStep() {
        Sentence just = new Sentence("1", "if what it BEARS is its WEIGHT or more");
        bearsJust(just, 0, 0, 0, 0);
        bearsJust(just, 0, 255, 0, 64);
        bearsJust(just, 0, 1, 2, 5);
        bearsJust(just, 1, 0, 255, 64);
        bearsJust(just, 1, 1, 2, 5);
        bearsJust(just, 2, 0, 0, 16);
        bearsJust(just, 3, 0, 0, 2);
        bearsJust(just, 3, 0, 255, 66);
        bearsJust(just, 4, 0, 0, 32);
        bearsJust(just, 4, 1, 0, 44);
        bearsJust(just, 5, 0, 0, 90);
        bearsJust(just, 5, 0, 1, 40);
        TruthRope x = all(0, 0);
        x.say(0, 0, 1);
        x.steps(1);
        just.gives("one of 0 that BEARS less than 0 has FALLEN", x.of(0, 5), 1);
        Sentence most = new Sentence("1", "its PLACE is as much more as it STRIDES (20 at most)");
        for (int place = 0; place < 20; place++) {
            x = all(4, 0);
            x.say(0, 255, 0);
            x.walker(1, 0);
            x.walker(0, 0);
            for (int i = 0; i < 3; i++) {
                x.stand(i, place);
            }
            x.steps(1);
            most.gives("9 from " + place, x.of(0, 2), Math.min(20, place + 9));
            most.gives("2 from " + place, x.of(1, 2), Math.min(20, place + 2));
            most.gives("1 from " + place, x.of(2, 2), place + 1);
        }
    }

    private static void theRest() {
        TruthRope x = new TruthRope();
        x.walker(0, 1);
        x.walker(0, 1);
        x.walker(1, 1);
        x.stand(0, 20);
        x.stand(1, 19);
        x.stand(2, 7);
        x.steps(1);
        Sentence s = new Sentence("1", "of each that is not ACROSS and has not FALLEN")
            .gives("one ACROSS that BEARS too little has not FALLEN", x.state(2), 6);
        new Sentence("1", "else it has FALLEN (its PLACE stays)")
            .gives("one at 19", x.of(1, 2), 19)
            .gives("one at 7", x.of(2, 2), 7)
            .gives("STEP", x.state(0), 1);
        x.mind(1, 0, 0);
        x.mind(2, 0, 0);
        x.steps(3);
        s.gives("one that has FALLEN doesn't go, though it would BEAR", x.of(1, 2) * 100 + x.of(2, 2), 1907);
        s.gives("they have FALLEN still", x.state(2), 6);
        new Sentence("1", "STEP is 1 more.").gives("behind 4", x.state(0), 4);
        TruthRope y = new TruthRope();
        y.steps(1);
        new Sentence("1", "STEP is 1 more").gives("without WALKERS", y.state(0), 1);
        y.step();
        new Sentence("1", "STEP is 1 more").gives("by draws", y.state(0), 2);
        TruthRope z = new TruthRope();
        for (int i = 0; i < 8; i++) {
            z.walker(0, 1);
        }
        z.steps(1);
        new Sentence("1", "else it has FALLEN").gives("all eight", z.state(2), 255).gives("so many", z.many(2), 8);
    }
}
