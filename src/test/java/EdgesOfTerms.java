/** The boundaries that 'Terms' names. */
final class EdgesOfTerms {
    private EdgesOfTerms() {
    }

    static void look() {
        numbersOfRefusals();
        refusedCallsChangeNothing();
        theTapeIsUsedUp();
        theFirstOfSeveral();
        quotients();
        fractions();
        fiveHundredAndTwelveCalls();
    }

    private static void numbersOfRefusals() {
        new Sentence("Terms", "BAD (-1) there is no such thing, or a number is not as told; FULL (-2); NONE (-3)")
            .gives("BAD", TruthRope.BAD, -1)
            .gives("FULL", TruthRope.FULL, -2)
            .gives("NONE", TruthRope.NONE, -3)
            .refuses("no such thing, lawOf(4)", x -> x.lawOf(4), -1)
            .refuses("a number not as told, set(0, 10)", x -> x.set(0, 10), -1)
            .refuses(Busy::withEightWalkers, "a ninth, walker(0, 1)", x -> x.walker(0, 1), -2)
            .refuses("of one that falls, over(1)", x -> x.over(Busy.FALLEN_ONE), -3);
        new Sentence("Terms", "-11 nothing where something is asked, -12 a place outside, -13 a thing of another sort"
            + " or kind, -14 a size below 0, -15 parted by 0")
            .refuses("a missing SHEET", x -> x.put(Busy.MISSING_SHEET, 0, 1), -11)
            .refuses("an empty SHELF", x -> x.taken(Busy.EMPTY_SHELF, 0), -11)
            .refuses("item 3 of three", x -> x.item(Busy.BYTES_SHEET, 0, 3), -12)
            .refuses("bytes taken for shorts", x -> x.item(Busy.BYTES_SHEET, 1, 0), -13)
            .refuses("a saint taken for a clown", x -> x.taken(Busy.WALKER_SHELF, 1), -13)
            .refuses("a row of -1", x -> x.sheet(Busy.BYTES_SHEET, 0, -1), -14)
            .gives("one that stands at its own number parts", partsAtItsNumber(), -15);
    }

    private static int partsAtItsNumber() {
        TruthRope x = Busy.circus();
        x.stand(4, 4);
        return x.act(Busy.WALKER_SHELF, 2, 9);
    }

    private static void refusedCallsChangeNothing() {
        new Sentence("Terms", "Answers below 0, where not told otherwise, are refusals; such a call changes nothing")
            .refuses("feed", x -> x.feed(-1L, 9), -1)
            .refuses(() -> Busy.withTapeOf(200), "feed to a full TAPE", x -> x.feed(-1L, 1), -2)
            .refuses("set", x -> x.set(0, 10), -1)
            .refuses("fact", x -> x.fact(0, 2), -1)
            .refuses("walker", x -> x.walker(0, 100), -1)
            .refuses("mind", x -> x.mind(0, 1, 100), -1)
            .refuses("say", x -> x.say(0, 5, 4), -1)
            .refuses("stand", x -> x.stand(Busy.FALLEN_ONE, 21), -1)
            .refuses("steps", x -> x.steps(61), -1)
            .refuses("luck", x -> x.luck(31), -1)
            .refuses("prove", x -> x.prove(0, 11), -1)
            .refuses("alterRow", x -> x.alterRow(0, 3, 5), -9)
            .refuses("minds", x -> x.minds(Busy.BYTES_SHEET, 2, 0, 2), -12)
            .refuses("sheet", x -> x.sheet(Busy.BYTES_SHEET, 0, -1), -14)
            .refuses("put", x -> x.put(Busy.BYTES_SHEET, 3, 5), -12)
            .refuses("shelf", x -> x.shelf(Busy.WALKER_SHELF, 1, 4), -1)
            .refuses(Busy::withNothingKept, "again", x -> x.again(), -3);
    }

    private static void theTapeIsUsedUp() {
        TruthRope x = Busy.withoutTape();
        Check.feed(x, "saint;fact 5;wit 9;seed 3;");
        new Sentence("Terms", "(but that THE TAPE is used up by circus())")
            .gives("bytes before", x.many(5), 26)
            .gives("a circus with a FAULT", x.circus(), -119)
            .gives("bytes then", x.many(5), 0)
            .refuses(Busy::withoutTape, "a FAULT changes nothing else", y -> Check.circus(y, "saint;fact 5;oh"), -113)
            .gives("the same again, on an empty TAPE", x.circus(), 0);
    }

    private static void theFirstOfSeveral() {
        new Sentence("Terms", "of several the one that the call names first")
            .refuses(() -> Busy.withTapeOf(200), "feed: BAD, FULL", x -> x.feed(-1L, 9), -1)
            .refuses(() -> Busy.withTapeOf(200), "feed: BAD, room for n", x -> x.feed(-1L, 0), -1)
            .refuses(Busy::withEightWalkers, "walker: BAD by KIND, FULL", x -> x.walker(6, 0), -1)
            .refuses(Busy::withEightWalkers, "walker: BAD by WEIGHT, FULL", x -> x.walker(0, 100), -1)
            .refuses("over: BAD, NONE", x -> x.over(6), -1)
            .refuses("falls: BAD, NONE", x -> x.falls(6), -1)
            .refuses("sayFor: BAD, NONE", x -> x.sayFor(Busy.FALLEN_ONE, 31), -1)
            .refuses("turnedFor: BAD, NONE", x -> x.turnedFor(Busy.FALLEN_ONE, 31), -1)
            .refuses("loadFor: BAD, NONE", x -> x.loadFor(Busy.FALLEN_ONE, 31), -1)
            .refuses("fits: BAD by one, -11", x -> x.fits(Busy.MISSING_SHEET, 6, 0), -1)
            .refuses("fits: BAD by what, -11", x -> x.fits(Busy.MISSING_SHEET, 0, 2), -1)
            .refuses("fits: -11, NONE", x -> x.fits(Busy.MISSING_SHEET, 0, 1), -11)
            .refuses("fits: BAD by one, NONE", x -> x.fits(Busy.BYTES_SHEET, 6, 1), -1)
            .refuses("minds: BAD by one, -11", x -> x.minds(Busy.MISSING_SHEET, 0, 6, 1), -1)
            .refuses("minds: BAD by n, -11", x -> x.minds(Busy.MISSING_SHEET, 0, 0, 9), -1)
            .refuses("minds: BAD beyond the last, -11", x -> x.minds(Busy.MISSING_SHEET, 0, 5, 2), -1)
            .refuses("minds: BAD by one, -13", x -> x.minds(Busy.INTS_SHEET, 0, 6, 1), -1)
            .refuses("minds: BAD beyond the last, -13", x -> x.minds(Busy.INTS_SHEET, 0, 5, 2), -1)
            .refuses("minds: BAD by n, -12", x -> x.minds(Busy.BYTES_SHEET, 4, 0, 9), -1)
            .refuses("minds: BAD beyond the last, -12", x -> x.minds(Busy.BYTES_SHEET, 4, 5, 2), -1)
            .refuses("minds: -11, -12", x -> x.minds(Busy.MISSING_SHEET, -1, 0, 1), -11)
            .refuses("minds: -13, -12", x -> x.minds(Busy.INTS_SHEET, 4, 0, 1), -13)
            .refuses("sheet: BAD by SHEET, -14", x -> x.sheet(4, 0, -1), -1)
            .refuses("sheet: BAD by sort, -14", x -> x.sheet(0, 4, -1), -1)
            .refuses("put: BAD, -12", x -> x.put(4, -1, 1), -1)
            .refuses("put: -11, -12", x -> x.put(Busy.MISSING_SHEET, -1, 1), -11)
            .refuses("item: BAD by sort, -11", x -> x.item(Busy.MISSING_SHEET, 4, 0), -1)
            .refuses("item: BAD by sort, -12", x -> x.item(Busy.BYTES_SHEET, 4, 3), -1)
            .refuses("item: BAD by SHEET, -12", x -> x.item(4, 0, 40), -1)
            .refuses("item: -11, -12", x -> x.item(Busy.MISSING_SHEET, 0, -1), -11)
            .refuses("item: -13, -12", x -> x.item(Busy.BYTES_SHEET, 1, 3), -13)
            .refuses("taken: BAD by as, -11", x -> x.taken(Busy.EMPTY_SHELF, 6), -1)
            .refuses("taken: BAD by as, -13", x -> x.taken(Busy.WALKER_SHELF, 14), -1)
            .refuses("taken: -11, another KIND", x -> x.taken(Busy.EMPTY_SHELF, 5), -11)
            .refuses("taken: -11, another sort", x -> x.taken(Busy.EMPTY_SHELF, 13), -11);
    }

    /** One numbered 0 at 2 parts by 2, one numbered 2 at 0 by -2. */
    private static void quotients() {
        TruthRope x = new TruthRope();
        x.walker(0, 0);
        x.walker(0, 0);
        x.walker(0, 0);
        x.stand(0, 2);
        x.shelf(0, 0, 0);
        x.shelf(1, 0, 2);
        new Sentence("Terms", "Quotients are cut towards 0.")
            .gives("7 by 2", x.act(0, 2, 7), 3)
            .gives("-7 by 2", x.act(0, 2, -7), -3)
            .gives("7 by -2", x.act(1, 2, 7), -3)
            .gives("-7 by -2", x.act(1, 2, -7), 3)
            .gives("1 by 2", x.act(0, 2, 1), 0)
            .gives("-1 by 2", x.act(0, 2, -1), 0)
            .gives("1 by -2", x.act(1, 2, 1), 0);
    }

    private static void fractions() {
        TruthRope x = new TruthRope();
        new Sentence("Terms", "A part of a fraction: 0 above the line, 1 below it, without a common divisor,"
            + " below above 0 (0 is 0 by 1).")
            .gives("20 of a hundred, above", x.odds(1, 1, 0), 1)
            .gives("20 of a hundred, below", x.odds(1, 1, 1), 5)
            .gives("5 times 20 of a hundred, above", x.hope(5, 0), 1)
            .gives("5 times 20 of a hundred, below", x.hope(5, 1), 1)
            .gives("a whole, above", x.odds(0, 0, 0), 1)
            .gives("a whole, below", x.odds(0, 0, 1), 1)
            .gives("none, above", x.hope(0, 0), 0)
            .gives("none, below", x.hope(0, 1), 1);
        x.set(3, 0);
        new Sentence("Terms", "(0 is 0 by 1)")
            .gives("odds of none, above", x.odds(8, 8, 0), 0)
            .gives("odds of none, below", x.odds(8, 8, 1), 1)
            .gives("hope of none, above", x.hope(99, 0), 0)
            .gives("hope of none, below", x.hope(99, 1), 1);
        x.set(3, 99);
        new Sentence("Terms", "without a common divisor")
            .gives("the greatest below, above", x.odds(8, 8, 0), 9227446944279201L)
            .gives("the greatest below", x.odds(8, 8, 1), 10000000000000000L);
    }

    /** 'What it is' says so: the last of so many calls must answer as all before. */
    private static void fiveHundredAndTwelveCalls() {
        TruthRope x = new TruthRope();
        x.walker(0, 0);
        for (int i = 0; i < 510; i++) {
            x.steps(60);
        }
        Check.due("'at most 512 calls': the 512th", x.state(0), 510 * 60);
        TruthRope y = new TruthRope();
        for (int i = 0; i < 511; i++) {
            y.sheet(i % 4, i / 4 % 4, 40);
        }
        Check.due("'at most 512 calls': the 512th, of sheets", y.sheet(3, 3, 40), 1);
        TruthRope z = new TruthRope();
        for (int i = 0; i < 511; i++) {
            z.feed(0x20, 1);
        }
        Check.due("'at most 512 calls': the 512th, of a full TAPE", z.feed(0x20, 1), TruthRope.FULL);
    }
}
