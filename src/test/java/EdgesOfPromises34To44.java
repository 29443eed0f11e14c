/** The boundaries that promises 34 to 44 name, call by call. */
final class EdgesOfPromises34To44 {
    private static final int BAD = TruthRope.BAD, NONE = TruthRope.NONE;
    private static final int LEAST = Integer.MIN_VALUE, GREATEST = Integer.MAX_VALUE;

    private EdgesOfPromises34To44() {
    }

    static void look() {
        minds();
        mindsHeld();
        sheet();
        put();
        item();
        shelf();
        taken();
        act();
        trace();
        many();
        keep();
        again();
    }

    private static TruthRope withFullSheet() {
        TruthRope x = Busy.withEightWalkers();
        x.sheet(Busy.BYTES_SHEET, 0, 40);
        for (int i = 0; i < 40; i++) {
            x.put(Busy.BYTES_SHEET, i, 50 + i);
        }
        return x;
    }

    private static void minds() {
        Sentence s = new Sentence("Promise 34", "BAD: no such SHEET, one, n, or n goes beyond the last one; -11; -13;"
            + " -12: i is not 0 to how many items there are (also for n 0), or there are not so many.");
        s.refusesEach("no such SHEET v", Sentence.outside(0, 3), (x, v) -> x.minds(v, 0, 0, 1), BAD)
            .refusesEach("no such one v", Sentence.outside(0, 5), (x, v) -> x.minds(0, 0, v, 1), BAD)
            .refusesEach("no such one v, n 0", Sentence.outside(0, 5), (x, v) -> x.minds(0, 0, v, 0), BAD)
            .refusesEach("no such n v", Sentence.outside(0, 8), (x, v) -> x.minds(0, 0, 0, v), BAD)
            .refuses("n beyond the last one, from the first", x -> x.minds(0, 0, 0, 7), BAD)
            .refuses("n beyond the last one, from the last", x -> x.minds(0, 0, 5, 2), BAD)
            .refuses(Busy::withoutWalkers, "without WALKERS", x -> x.minds(0, 0, 0, 0), BAD)
            .refusesEach("a missing SHEET, n v", Sentence.numbers(0, 1, 6), (x, v) -> x.minds(3, 0, 0, v), -11)
            .refusesEach("longs, n v", Sentence.numbers(0, 1, 6), (x, v) -> x.minds(Busy.LONGS_SHEET, 0, 0, v), -13)
            .refusesEach("ints, n v", Sentence.numbers(0, 1, 6), (x, v) -> x.minds(Busy.INTS_SHEET, 0, 0, v), -13)
            .refusesEach("i v, n 0", Sentence.outside(0, 3), (x, v) -> x.minds(0, v, 0, 0), -12)
            .refusesEach("i v, n 1", Sentence.outside(0, 2), (x, v) -> x.minds(0, v, 0, 1), -12)
            .refusesEach("i v, n 6", Sentence.numbers(-3, 0, 3, GREATEST, GREATEST - 5, LEAST),
                (x, v) -> x.minds(0, v, 0, 6), -12)
            .refuses("not so many, from 0", x -> x.minds(0, 0, 0, 4), -12)
            .refuses("not so many, from 2", x -> x.minds(0, 2, 0, 2), -12)
            .refuses("not so many, from 3", x -> x.minds(0, 3, 0, 1), -12)
            .refuses(EdgesOfPromises34To44::withFullSheet, "from 33 eight of 40", x -> x.minds(0, 33, 0, 8), -12)
            .refuses(EdgesOfPromises34To44::withFullSheet, "nine", x -> x.minds(0, 0, 0, 9), BAD)
            .refuses(EdgesOfPromises34To44::withFullSheet, "eight from the second", x -> x.minds(0, 0, 1, 8), BAD)
            .refuses(EdgesOfPromises34To44::withFullSheet, "41, n 0", x -> x.minds(0, 41, 0, 0), -12);
        TruthRope shorts = Busy.circus();
        shorts.sheet(3, 1, 3);
        s.gives("shorts", shorts.minds(3, 0, 0, 1), -13);
        TruthRope empty = Busy.circus();
        empty.sheet(3, 0, 0);
        s.gives("of no items, n 0", empty.minds(3, 0, 0, 0), 0).gives("of no items, i 1", empty.minds(3, 1, 0, 0), -12)
            .gives("of no items, n 1", empty.minds(3, 0, 0, 1), -12).gives("of no items, i -1", empty.minds(3, -1, 0, 0), -12);
        Sentence zero = new Sentence("Promise 34", "i is not 0 to how many items there are (also for n 0)");
        zero.gives("n 0, i 0", Busy.circus().minds(0, 0, 0, 0), 0)
            .gives("n 0, i 3 of three", Busy.circus().minds(0, 3, 5, 0), 0)
            .gives("n 0, i 40 of forty", withFullSheet().minds(0, 40, 7, 0), 0)
            .refuses("n 0 changes nothing", x -> x.minds(0, 3, 0, 0), 0);
    }

    private static void mindsHeld() {
        Sentence s = new Sentence("Promise 34", "n numbers (0 to 8) of a SHEET taken for bytes, from i on, become WEIGHT"
            + " of WALKERS from one on (held to 0 to 99): n.");
        TruthRope x = withFullSheet();
        s.gives("eight from 32", x.minds(0, 32, 0, 8), 8);
        for (int i = 0; i < 8; i++) {
            s.gives("WEIGHT of " + i, x.of(i, 1), 82 + i);
        }
        s.gives("the last from 39", x.minds(0, 39, 7, 1), 1).gives("its WEIGHT", x.of(7, 1), 89);
        s.gives("two from 0, from the sixth on", x.minds(0, 0, 5, 2), 2);
        s.gives("the fifth", x.of(4, 1), 86).gives("the sixth", x.of(5, 1), 50).gives("the seventh", x.of(6, 1), 51)
            .gives("the eighth", x.of(7, 1), 89);
        int[] put = {-128, -1, 0, 1, 98, 99, 100, 127};
        int[] held = {0, 0, 0, 1, 98, 99, 99, 99};
        for (int i = 0; i < 8; i++) {
            x.put(0, i, put[i]);
        }
        s.gives("eight from 0", x.minds(0, 0, 0, 8), 8);
        for (int i = 0; i < 8; i++) {
            s.gives(put[i] + " is held", x.of(i, 1), held[i]);
        }
        x.put(0, 0, 128);
        x.minds(0, 0, 0, 1);
        s.gives("128 is -128 as a byte", x.of(0, 1), 0);
        s.gives("its KIND stays", x.of(0, 0), 0).gives("its PLACE stays", x.of(0, 2), 5)
            .gives("its SAYING stays", x.of(0, 3), 3).gives("who has FALLEN stays", x.state(2), 2);
    }

    private static void sheet() {
        Sentence s = new Sentence("Promise 35", "A SHEET becomes a row of n of a sort, all 0, or missing (sort -1; n counts"
            + " nothing then): 1. BAD: no such SHEET, sort, n above 40; -14.");
        s.refusesEach("sheet(v, 0, 1)", Sentence.outside(0, 3), (x, v) -> x.sheet(v, 0, 1), BAD)
            .refusesEach("sheet(v, -1, 1)", Sentence.outside(0, 3), (x, v) -> x.sheet(v, -1, 1), BAD)
            .refusesEach("sheet(0, v, 1)", Sentence.outside(-1, 3), (x, v) -> x.sheet(0, v, 1), BAD)
            .refusesEach("sheet(3, v, 1)", Sentence.outside(-1, 3), (x, v) -> x.sheet(3, v, 1), BAD)
            .refusesEach("sheet(0, 0, v)", Sentence.numbers(41, 42, 296, GREATEST), (x, v) -> x.sheet(0, 0, v), BAD)
            .refusesEach("sheet(3, 3, v)", Sentence.numbers(41, 42, 296, GREATEST), (x, v) -> x.sheet(3, 3, v), BAD)
            .refusesEach("sheet(0, 0, v)", Sentence.numbers(-1, -2, -40, -41, LEAST), (x, v) -> x.sheet(0, 0, v), -14)
            .refusesEach("sheet(3, 3, v)", Sentence.numbers(-1, -2, -40, -41, LEAST), (x, v) -> x.sheet(3, 3, v), -14)
            .refusesEach("no such sort, below 0, v", Sentence.numbers(-2, 4), (x, v) -> x.sheet(0, v, -1), BAD)
            .refusesEach("no such SHEET, below 0, v", Sentence.numbers(-1, 4), (x, v) -> x.sheet(v, 0, -1), BAD);
        for (int sheet = 0; sheet < 4; sheet++) {
            for (int sort = 0; sort < 4; sort++) {
                TruthRope x = Busy.circus();
                s.gives("of 40", x.sheet(sheet, sort, 40), 1).gives("its last", x.item(sheet, sort, 39), 0)
                    .gives("none behind it", x.item(sheet, sort, 40), -12);
                boolean allZero = true;
                for (int i = 0; i < 40; i++) {
                    allZero &= x.item(sheet, sort, i) == 0;
                }
                s.holds("all 0", allZero);
                s.gives("of 0", x.sheet(sheet, sort, 0), 1).gives("no first", x.item(sheet, sort, 0), -12);
                for (int n : new int[] {0, 41, -1, LEAST, GREATEST}) {
                    x.sheet(sheet, sort, 2);
                    s.gives("missing, n " + n, x.sheet(sheet, -1, n), 1)
                        .gives("it is", x.item(sheet, sort, 0), -11);
                }
            }
        }
    }

    private static void put() {
        Sentence s = new Sentence("Promise 36", "Item i becomes v, narrowed to its sort: 1. BAD: no such SHEET; -11; -12.");
        s.refusesEach("put(v, 0, 1)", Sentence.outside(0, 3), (x, v) -> x.put(v, 0, 1), BAD)
            .refusesEach("put to a missing one, at v", Sentence.numbers(0, -1, 40), (x, v) -> x.put(3, v, 1), -11)
            .refusesEach("bytes, at v", Sentence.outside(0, 2), (x, v) -> x.put(Busy.BYTES_SHEET, v, 1), -12)
            .refusesEach("longs, at v", Sentence.outside(0, 2), (x, v) -> x.put(Busy.LONGS_SHEET, v, 1), -12)
            .refusesEach("ints, at v", Sentence.outside(0, 2), (x, v) -> x.put(Busy.INTS_SHEET, v, 1), -12);
        int[][] narrowed = {
            {127, 127, 127}, {128, -128, 128}, {255, -1, 255}, {256, 0, 256}, {-128, -128, -128}, {-129, 127, -129},
            {32767, -1, 32767}, {32768, 0, -32768}, {65535, -1, -1}, {65536, 0, 0}, {-32768, 0, -32768},
            {-32769, -1, 32767}, {GREATEST, -1, -1}, {LEAST, 0, 0}, {-1, -1, -1}, {0, 0, 0},
        };
        TruthRope x = new TruthRope();
        for (int sort = 0; sort < 4; sort++) {
            x.sheet(sort, sort, 2);
            for (int[] n : narrowed) {
                int want = sort == 0 ? n[1] : sort == 1 ? n[2] : n[0];
                s.gives("the last, " + n[0], x.put(sort, 1, n[0]), 1)
                    .gives(n[0] + " of sort " + sort, x.item(sort, sort, 1), want)
                    .gives("the first stays", x.item(sort, sort, 0), 0);
            }
        }
        x.sheet(0, 0, 0);
        s.gives("to a row of none", x.put(0, 0, 1), -12).gives("to a row of none, at -1", x.put(0, -1, 1), -12);
    }

    private static void item() {
        Sentence s = new Sentence("Promise 37", "Item i, taken for a sort (0 to 3; of longs the lowest 32 bits). BAD: no such"
            + " SHEET, sort; -11; -13; -12. (An item may be as low as these, too.)");
        s.refusesEach("item(v, 0, 0)", Sentence.outside(0, 3), (x, v) -> x.item(v, 0, 0), BAD)
            .refusesEach("item(0, v, 0)", Sentence.outside(0, 3), (x, v) -> x.item(0, v, 0), BAD)
            .refusesEach("a missing one as v", Sentence.numbers(0, 1, 2, 3), (x, v) -> x.item(3, v, 0), -11)
            .refusesEach("a missing one as v", Sentence.outside(0, 3), (x, v) -> x.item(3, v, 0), BAD)
            .refusesEach("bytes as v", Sentence.numbers(1, 2, 3), (x, v) -> x.item(Busy.BYTES_SHEET, v, 0), -13)
            .refusesEach("longs as v", Sentence.numbers(0, 1, 2), (x, v) -> x.item(Busy.LONGS_SHEET, v, 0), -13)
            .refusesEach("ints as v", Sentence.numbers(0, 1, 3), (x, v) -> x.item(Busy.INTS_SHEET, v, 0), -13)
            .refusesEach("bytes, at v", Sentence.outside(0, 2), (x, v) -> x.item(Busy.BYTES_SHEET, 0, v), -12)
            .refusesEach("longs, at v", Sentence.outside(0, 2), (x, v) -> x.item(Busy.LONGS_SHEET, 3, v), -12)
            .refusesEach("ints, at v", Sentence.outside(0, 2), (x, v) -> x.item(Busy.INTS_SHEET, 2, v), -12)
            .refusesEach("bytes as shorts, at v", Sentence.outside(0, 2), (x, v) -> x.item(Busy.BYTES_SHEET, 1, v), -13)
            .gives("the first", Busy.circus().item(Busy.BYTES_SHEET, 0, 0), -60)
            .gives("the last", Busy.circus().item(Busy.BYTES_SHEET, 0, 2), 60)
            .gives("the last of longs", Busy.circus().item(Busy.LONGS_SHEET, 3, 2), 61);
        Sentence low = new Sentence("Promise 37", "(An item may be as low as these, too.)");
        TruthRope x = new TruthRope();
        for (int sort = 0; sort < 4; sort++) {
            x.sheet(sort, sort, 1);
            for (int v : new int[] {-1, -2, -3, -9, -11, -12, -13, -14, -15}) {
                x.put(sort, 0, v);
                low.gives(v + " of sort " + sort, x.item(sort, sort, 0), v);
            }
        }
        Sentence longs = new Sentence("Promise 37", "of longs the lowest 32 bits");
        for (int v : new int[] {LEAST, GREATEST, -1, 0}) {
            x.put(3, 0, v);
            longs.gives("of " + v, x.item(3, 3, 0), v);
        }
    }

    private static void shelf() {
        Sentence s = new Sentence("Promise 38", "A SHELF holds one of the WALKERS (what 0, its number n), the row of SHEET n"
            + " (1; nothing, if missing), nothing (2; n counts nothing): 1. BAD: no such SHELF, what, thing.");
        for (int what = 0; what <= 2; what++) {
            int of = what;
            s.refusesEach("shelf(v, " + what + ", 0)", Sentence.outside(0, 3), (x, v) -> x.shelf(v, of, 0), BAD);
        }
        for (int shelf = 0; shelf < 4; shelf++) {
            int on = shelf;
            s.refusesEach("shelf(" + on + ", v, 0)", Sentence.outside(0, 2), (x, v) -> x.shelf(on, v, 0), BAD)
                .refusesEach("shelf(" + on + ", 0, v)", Sentence.outside(0, 5), (x, v) -> x.shelf(on, 0, v), BAD)
                .refusesEach("shelf(" + on + ", 1, v)", Sentence.outside(0, 3), (x, v) -> x.shelf(on, 1, v), BAD)
                .refusesEach(Busy::withoutWalkers, "shelf(" + on + ", 0, v) without WALKERS", Sentence.numbers(0, -1),
                    (x, v) -> x.shelf(on, 0, v), BAD);
            TruthRope x = Busy.circus();
            s.gives("the first one", x.shelf(on, 0, 0), 1).gives("taken", x.taken(on, 0), 0)
                .gives("the last one", x.shelf(on, 0, 5), 1).gives("taken", x.taken(on, 5), 5)
                .gives("the first SHEET", x.shelf(on, 1, 0), 1).gives("taken", x.taken(on, 10), 3)
                .gives("a missing SHEET", x.shelf(on, 1, 3), 1).gives("taken", x.taken(on, 10), -11)
                .gives("taken as a thing", x.taken(on, 0), -11);
            for (int n : new int[] {0, -1, 4, 99, LEAST, GREATEST}) {
                x.shelf(on, 0, 1);
                s.gives("nothing, n " + n, x.shelf(on, 2, n), 1).gives("taken", x.taken(on, 1), -11);
                x.shelf(on, 1, 1);
                s.gives("nothing, n " + n, x.shelf(on, 2, n), 1).gives("taken", x.taken(on, 13), -11);
            }
            x.sheet(3, 2, 40);
            s.gives("the last SHEET", x.shelf(on, 1, 3), 1).gives("taken", x.taken(on, 12), 40)
                .gives("a row doesn't act", x.act(on, 0, 1), 0);
        }
    }

    private static void taken() {
        Sentence s = new Sentence("Promise 39", "What a SHELF holds taken for a thing of KIND as (0 to 5, or one under it):"
            + " its number; for a row of sort as - 10 (as 10 to 13): how many items. BAD: no such SHELF, as; -11; -13.");
        s.refusesEach("taken(v, 0)", Sentence.outside(0, 3), (x, v) -> x.taken(v, 0), BAD)
            .refusesEach("taken(v, 10)", Sentence.outside(0, 3), (x, v) -> x.taken(v, 10), BAD);
        int[] noAs = {-1, 6, 7, 8, 9, 14, 15, -10, -11, 256, 266, LEAST, LEAST + 9, LEAST + 10, LEAST + 13, GREATEST};
        for (int shelf = 0; shelf < 4; shelf++) {
            int on = shelf;
            s.refusesEach("taken(" + on + ", v)", noAs, (x, v) -> x.taken(on, v), BAD);
        }
        s.refusesEach("nothing as v", Sentence.numbers(0, 5, 10, 13), (x, v) -> x.taken(Busy.EMPTY_SHELF, v), -11)
            .refusesEach("a saint as v", Sentence.numbers(1, 3, 5, 10, 13), (x, v) -> x.taken(Busy.WALKER_SHELF, v), -13)
            .givesEach("a saint as v", Sentence.numbers(0, 2, 4), (x, v) -> x.taken(Busy.WALKER_SHELF, v), 4)
            .refusesEach("shorts as v", Sentence.numbers(0, 5, 10, 12, 13), (x, v) -> x.taken(Busy.SHORTS_SHELF, v), -13)
            .refusesEach("bytes as v", Sentence.numbers(0, 5, 11, 12, 13), (x, v) -> x.taken(Busy.BYTES_SHELF, v), -13)
            .gives("shorts", Busy.circus().taken(Busy.SHORTS_SHELF, 11), 5)
            .gives("bytes", Busy.circus().taken(Busy.BYTES_SHELF, 10), 3);
        TruthRope x = Busy.circus();
        for (int sort = 0; sort < 4; sort++) {
            for (int n : new int[] {0, 1, 40}) {
                x.sheet(0, sort, n);
                x.shelf(0, 1, 0);
                s.gives("of sort " + sort + ", " + n, x.taken(0, 10 + sort), n);
            }
        }
        TruthRope gone = Busy.circus();
        gone.again();
        s.gives("one that is gone", gone.taken(Busy.WALKER_SHELF, 4), -11)
            .gives("one that is gone, for a row", gone.taken(Busy.WALKER_SHELF, 13), -11)
            .gives("one that is gone, as 6", gone.taken(Busy.WALKER_SHELF, 6), BAD);
    }

    /** A circus whose latest act had nothing to do, so that a call that does nothing either leaves all as it was. */
    private static TruthRope withoutTrace() {
        TruthRope x = Busy.circus();
        x.shelf(Busy.EMPTY_SHELF, 2, 0);
        x.act(Busy.EMPTY_SHELF, 0, 0);
        return x;
    }

    private static void act() {
        Sentence s = new Sentence("Promise 40", "An ACT (0 to 3) of the thing on a SHELF, with x. 0, and no TRACE then: no"
            + " such SHELF, act, nothing, a row.");
        for (int act = 0; act < 4; act++) {
            int which = act;
            s.refusesEach(EdgesOfPromises34To44::withoutTrace, "act(v, " + act + ", 9)", Sentence.outside(0, 3),
                (x, v) -> x.act(v, which, 9), 0);
            s.refusesEach(EdgesOfPromises34To44::withoutTrace, "nothing or a row, act(v, " + act + ", 9)",
                Sentence.numbers(Busy.EMPTY_SHELF, Busy.SHORTS_SHELF, Busy.BYTES_SHELF), (x, v) -> x.act(v, which, 9), 0);
        }
        s.refusesEach(EdgesOfPromises34To44::withoutTrace, "act(0, v, 9)", Sentence.outside(0, 3), (x, v) -> x.act(0, v, 9), 0);
        int[][] none = {{-1, 0}, {4, 0}, {0, -1}, {0, 4}, {Busy.EMPTY_SHELF, 0}, {Busy.SHORTS_SHELF, 3},
            {Busy.BYTES_SHELF, 2}, {LEAST, LEAST}, {GREATEST, GREATEST}};
        for (int[] w : none) {
            TruthRope x = Busy.circus();
            s.gives("a TRACE before", x.many(6), 11)
                .gives("act(" + w[0] + ", " + w[1] + ", 9)", x.act(w[0], w[1], 9), 0)
                .gives("no TRACE then", x.many(6), 0).gives("nor its first", x.trace(0), NONE);
        }
        TruthRope x = Busy.circus();
        s.gives("the first ACT", x.act(0, 0, 1), 22).gives("its TRACE", x.many(6), 3)
            .gives("the last ACT", x.act(0, 3, 1), saintTreads(1, 4, x.of(4, 2))).gives("its TRACE", x.many(6), 11);
        x.shelf(3, 0, 0);
        s.gives("on the last SHELF", x.act(3, 0, 1), 8);
        x.again();
        s.gives("one that is gone", x.act(0, 0, 1), 0).gives("no TRACE then", x.many(6), 0);
    }

    private static int saintTreads(int x, int n, int a) {
        int sways = (8 * x - n + 7) * 2 + a - (8 * a - n + 7) * 2;
        return (sways ^ 110) - n / (a - n);
    }

    private static void trace() {
        Sentence s = new Sentence("Promise 41", "THE TRACE's i-th body. NONE.");
        int[] busy = {31, 13, 41, 11, 40, 30, 10, 40, 30, 10, 12};
        for (int i = 0; i < busy.length; i++) {
            s.gives("trace(" + i + ")", Busy.circus().trace(i), busy[i]);
        }
        s.refusesEach("trace(v)", Sentence.outside(0, 10), (x, v) -> x.trace(v), NONE)
            .refusesEach("trace(v)", Sentence.numbers(29, 30, 31), (x, v) -> x.trace(v), NONE)
            .refusesEach(TruthRope::new, "of a new object, trace(v)", Sentence.numbers(0, -1, 1), (x, v) -> x.trace(v), NONE)
            .refusesEach(EdgesOfPromises34To44::withoutTrace, "without one, trace(v)", Sentence.numbers(0, -1, 10),
                (x, v) -> x.trace(v), NONE);
        TruthRope x = Busy.circus();
        x.act(0, 0, 1);
        s.gives("the last of a shorter one", x.trace(2), 10).gives("none behind it", x.trace(3), NONE);
    }

    private static void many() {
        Sentence s = new Sentence("Promise 42", "How many: what = 0 WALKERS, 1 those ACROSS, 2 those that have FALLEN, 3 FACTS"
            + " that are SO, 4 ROWS, 5 bytes of THE TAPE, 6 bodies of THE TRACE (those kept, 30 at most). BAD: another"
            + " what.");
        int[] busy = {6, 1, 1, 2, 4, Busy.ON_THE_TAPE.length(), 11};
        for (int what = 0; what <= 6; what++) {
            s.gives("many(" + what + ")", Busy.circus().many(what), busy[what]);
            s.gives("of a new object, many(" + what + ")", new TruthRope().many(what), 0);
        }
        s.refusesEach("many(v)", Sentence.outside(0, 6), (x, v) -> x.many(v), BAD)
            .refusesEach(TruthRope::new, "of a new object, many(v)", Sentence.numbers(-1, 7), (x, v) -> x.many(v), BAD);
        TruthRope x = new TruthRope();
        for (int i = 0; i < 8; i++) {
            x.walker(0, 99);
            x.stand(i, 20);
            x.fact(i, 1);
        }
        x.prove(0, 10);
        Check.feed(x, " ".repeat(200));
        int[] full = {8, 8, 0, 8, 10, 200, 0};
        for (int what = 0; what <= 6; what++) {
            s.gives("the most, many(" + what + ")", x.many(what), full[what]);
        }
        for (int i = 0; i < 8; i++) {
            x.stand(i, 19);
        }
        x.steps(1);
        s.gives("all eight FALLEN", x.many(2), 8).gives("none ACROSS", x.many(1), 0);
    }

    private static void keep() {
        Sentence s = new Sentence("Promise 43", "All but THE TAPE, ROWS, SHEETS, SHELVES, THE TRACE is kept: 1.");
        s.gives("of a new object", new TruthRope().keep(), 1).gives("busy", Busy.circus().keep(), 1)
            .gives("of eight", Busy.withEightWalkers().keep(), 1);
        TruthRope x = Busy.circus();
        x.again();
        int[] kept = {2, 0, 1, 1, Busy.ROWS, Busy.ON_THE_TAPE.length(), 11};
        for (int what = 0; what <= 6; what++) {
            s.gives("many(" + what + ") behind again()", x.many(what), kept[what]);
        }
        s.gives("ROWS stay", x.row(2, 1), 77).gives("THE TRACE stays", x.trace(10), 12)
            .gives("SHEETS stay", x.item(Busy.BYTES_SHEET, 0, 2), 60)
            .gives("a missing one stays", x.put(Busy.MISSING_SHEET, 0, 1), -11)
            .gives("SHELVES stay", x.taken(Busy.SHORTS_SHELF, 11), 5)
            .gives("an empty one stays", x.taken(Busy.EMPTY_SHELF, 0), -11)
            .gives("THE TAPE stays", x.circus(), 1).gives("what it told", x.state(3), 64);
        keptWhole(s);
    }

    private static void keptWhole(Sentence s) {
        TruthRope x = Busy.withEightWalkers();
        String before = Check.picture(x);
        x.keep();
        s.holds("keep() changes nothing", before.equals(Check.picture(x)));
        x.set(0, 0);
        x.set(1, 0);
        x.set(2, 0);
        x.set(3, 0);
        for (int i = 0; i < 8; i++) {
            x.fact(i, 1);
            x.mind(i, (i + 1) % 6, 99 - i);
            x.say(i, 1 << i, 0);
            x.stand(i, 19 - i);
        }
        x.steps(3);
        x.seed(5);
        s.gives("eight again", x.again(), 8);
        s.holds("all is as it was kept", before.equals(Check.picture(x)));
    }

    private static void again() {
        Sentence s = new Sentence("Promise 44", "It becomes what was kept latest (which stays): how many WALKERS. NONE:"
            + " nothing is kept.");
        s.refuses(TruthRope::new, "of a new object", TruthRope::again, NONE)
            .refuses(Busy::withNothingKept, "busy, but nothing kept", TruthRope::again, NONE);
        TruthRope x = new TruthRope();
        x.keep();
        Check.circus(x, "walker;".repeat(8));
        s.gives("one without WALKERS", x.again(), 0).gives("none there", x.many(0), 0).gives("and again", x.again(), 0);
        Check.circus(x, "walker;".repeat(8));
        x.keep();
        Check.circus(x, "");
        s.gives("one with eight", x.again(), 8).gives("eight there", x.many(0), 8).gives("and again", x.again(), 8);
        for (int i = 0; i < 3; i++) {
            x.stand(0, 9 + i);
            x.seed(i);
            s.gives("it stays", x.again(), 8).gives("its PLACE", x.of(0, 2), 0).gives("z", x.seed(1), 1);
        }
        x.stand(7, 20);
        x.keep();
        x.stand(7, 3);
        s.gives("the latest", x.again(), 8).gives("its PLACE", x.of(7, 2), 20);
        Check.circus(x, "walker");
        s.gives("behind a FAULT", x.again(), 8);
    }
}
