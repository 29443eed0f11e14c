/**
 * Circuses in which all that an object can hold is set to something, and a picture that shows all of it, so that a
 * refused call that changes anything is seen.
 */
final class Busy {
    static final String ON_THE_TAPE = "jester weight 3 at 7 says 5 denies 8;fact 6;wit 4;doubt 7;";
    static final String KEPT = "child weight 4 at 2 says 1;clown weight 9 at 6;fact 3;plank 7;but 2;wit 1;doubt 11;";
    static final String NOW = "walker weight 9 at 3 says 3 denies 8;clown weight 99 at 5;child at 20;"
        + "jester weight 2 at 4;saint weight 7 at 1 says 1 denies 64;thinker at 1;fact 0;fact 1;plank 6;but 4;wit 3;doubt 33;";

    /** Where what stands in circus(): the walkers by number are of the kinds 0 to 5. */
    static final int WALKERS = 6, FALLEN_ONE = 1, ACROSS_ONE = 2, ROWS = 4;
    static final int BYTES_SHEET = 0, LONGS_SHEET = 1, INTS_SHEET = 2, MISSING_SHEET = 3, ITEMS = 3;
    static final int WALKER_SHELF = 0, SHORTS_SHELF = 1, BYTES_SHELF = 2, EMPTY_SHELF = 3;

    private Busy() {
    }

    static TruthRope circus() {
        TruthRope x = withoutTape();
        Check.feed(x, ON_THE_TAPE);
        return x;
    }

    static TruthRope withoutTape() {
        TruthRope x = new TruthRope();
        Check.circus(x, KEPT);
        x.steps(1);
        x.seed(-987654321);
        x.keep();
        Check.circus(x, NOW);
        x.steps(2);
        x.seed(20202);
        x.sheet(3, 1, 5);
        x.shelf(SHORTS_SHELF, 1, 3);
        x.sheet(3, -1, 0);
        for (int sheet = 0; sheet < 3; sheet++) {
            x.sheet(sheet, sheet == 0 ? 0 : sheet == 1 ? 3 : 2, ITEMS);
            for (int i = 0; i < ITEMS; i++) {
                x.put(sheet, i, 60 * (i - 1) + sheet);
            }
        }
        x.shelf(WALKER_SHELF, 0, 4);
        x.shelf(BYTES_SHELF, 1, BYTES_SHEET);
        x.act(WALKER_SHELF, 3, 5);
        x.prove(0, ROWS);
        x.alterRow(2, 1, 77);
        return x;
    }

    static TruthRope withEightWalkers() {
        TruthRope x = circus();
        x.walker(4, 44);
        x.walker(0, 55);
        return x;
    }

    static TruthRope withTapeOf(int bytes) {
        TruthRope x = withoutTape();
        StringBuilder text = new StringBuilder("saint at 3;fact 5;");
        while (text.length() < bytes) {
            text.append(' ');
        }
        Check.feed(x, text.toString());
        return x;
    }

    static TruthRope withNothingKept() {
        TruthRope x = new TruthRope();
        Check.circus(x, NOW);
        x.steps(2);
        x.prove(0, 2);
        Check.feed(x, ON_THE_TAPE);
        return x;
    }

    static TruthRope withoutWalkers() {
        TruthRope x = circus();
        x.circus();
        Check.circus(x, "fact 2;plank 3;but 5;wit 6;doubt 44;");
        x.steps(3);
        Check.feed(x, ON_THE_TAPE);
        return x;
    }

    /** Shows all that the object holds; it uses up THE TAPE and goes back to what was kept to show those too. */
    static String picture(TruthRope x) {
        StringBuilder all = new StringBuilder(Check.picture(x));
        sheets(x, all.append("; sheets "));
        shelves(x, all.append("; shelves "));
        all.append("; tape ").append(x.circus()).append(' ').append(Check.picture(x));
        all.append("; kept ").append(x.again()).append(' ').append(Check.picture(x));
        return all.toString();
    }

    private static void sheets(TruthRope x, StringBuilder all) {
        for (int sheet = 0; sheet < 4; sheet++) {
            for (int sort = 0; sort < 4; sort++) {
                int first = x.item(sheet, sort, 0);
                all.append(first).append(' ');
                for (int i = 1; i < 8 && first != -11 && first != -13; i++) {
                    all.append(x.item(sheet, sort, i)).append(' ');
                }
            }
        }
    }

    private static void shelves(TruthRope x, StringBuilder all) {
        for (int shelf = 0; shelf < 4; shelf++) {
            for (int as = 0; as < 14; as++) {
                if (as < 6 || as > 9) {
                    all.append(x.taken(shelf, as)).append(' ');
                }
            }
        }
    }
}
