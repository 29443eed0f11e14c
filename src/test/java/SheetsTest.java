/** Promises 34 to 39: SHEETS, weights out of them, and SHELVES. */
public final class SheetsTest {
    public static void main(String[] args) {
        sheets();
        items();
        narrowing();
        weights();
        weightsRefused();
        shelves();
        kindsOnShelves();
        rowsOnShelves();
        Check.finish();
    }

    private static void sheets() {
        TruthRope x = new TruthRope();
        for (int sort = 0; sort < 4; sort++) {
            Check.due("35: of 40", x.sheet(sort, sort, 40), 1);
            Check.due("37: the last is 0", x.item(sort, sort, 39), 0);
            Check.due("37: and there is none behind it", x.item(sort, sort, 40), -12);
        }
        x.put(1, 3, 9);
        Check.due("35: made anew", x.sheet(1, 1, 4), 1);
        Check.due("35: all 0", x.item(1, 1, 3), 0);
        Check.due("35: of none", x.sheet(1, 2, 0), 1);
        Check.due("37: it has no first", x.item(1, 2, 0), -12);
        Check.due("36: nor can one be put", x.put(1, 0, 1), -12);
        Check.due("35: sheet 4", x.sheet(4, 0, 1), TruthRope.BAD);
        Check.due("35: sheet -1", x.sheet(-1, 0, 1), TruthRope.BAD);
        Check.due("35: no such sheet can't be missing", x.sheet(4, -1, 1), TruthRope.BAD);
        Check.due("35: sort 4", x.sheet(0, 4, 1), TruthRope.BAD);
        Check.due("35: sort -2", x.sheet(0, -2, 1), TruthRope.BAD);
        Check.due("35: of 41", x.sheet(0, 0, 41), TruthRope.BAD);
        Check.due("35: of -1", x.sheet(0, 0, -1), -14);
        Check.due("35: of the least int", x.sheet(0, 0, Integer.MIN_VALUE), -14);
        Check.due("35: BAD comes before -14", x.sheet(0, 4, -1), TruthRope.BAD);
        Check.due("35: a refused one stays", x.item(0, 0, 39), 0);
        Check.due("35: missing, whatever n", x.sheet(0, -1, 99), 1);
        Check.due("37: it is missing", x.item(0, 0, 0), -11);
        Check.due("35: missing again", x.sheet(0, -1, -9), 1);
    }

    private static void items() {
        TruthRope x = new TruthRope();
        Check.due("36: a missing one", x.put(0, 0, 1), -11);
        Check.due("36: sheet 4", x.put(4, 0, 1), TruthRope.BAD);
        Check.due("36: sheet -1", x.put(-1, 0, 1), TruthRope.BAD);
        x.sheet(0, 2, 3);
        Check.due("36: put(0, 2, 7)", x.put(0, 2, 7), 1);
        Check.due("36: place 3", x.put(0, 3, 7), -12);
        Check.due("36: place -1", x.put(0, -1, 7), -12);
        Check.due("37: item 2", x.item(0, 2, 2), 7);
        Check.due("37: item 1", x.item(0, 2, 1), 0);
        Check.due("37: place 3", x.item(0, 2, 3), -12);
        Check.due("37: place -1", x.item(0, 2, -1), -12);
        Check.due("37: another sort, though outside too", x.item(0, 1, 3), -13);
        Check.due("37: of longs", x.item(0, 3, 2), -13);
        Check.due("37: sort 4", x.item(0, 4, 2), TruthRope.BAD);
        Check.due("37: sort -1", x.item(0, -1, 2), TruthRope.BAD);
        Check.due("37: sheet 4", x.item(4, 2, 2), TruthRope.BAD);
        Check.due("37: sort 4 of a missing one", x.item(1, 4, 2), TruthRope.BAD);
        Check.due("37: a missing one", x.item(1, 2, 2), -11);
    }

    private static void narrowing() {
        TruthRope x = new TruthRope();
        int[] numbers = {127, 128, -129, 255, 32767, 32768, 65535, -32769, Integer.MIN_VALUE, Integer.MAX_VALUE, -1};
        for (int sort = 0; sort < 4; sort++) {
            x.sheet(sort, sort, 1);
            for (int v : numbers) {
                int want = sort == 0 ? (byte) v : sort == 1 ? (short) v : v;
                x.put(sort, 0, v);
                Check.due("36: " + v + " of sort " + sort, x.item(sort, sort, 0), want);
            }
        }
    }

    private static void weights() {
        TruthRope x = new TruthRope();
        for (int i = 0; i < 8; i++) {
            x.walker(0, 50);
        }
        x.sheet(2, 0, 10);
        int[] numbers = {1, 99, 100, -1, 127, -128, 0, 98, 55, 54};
        for (int i = 0; i < 10; i++) {
            x.put(2, i, numbers[i]);
        }
        Check.due("34: eight of them", x.minds(2, 0, 0, 8), 8);
        int[] want = {1, 99, 99, 0, 99, 0, 0, 98};
        for (int i = 0; i < 8; i++) {
            Check.due("34: weight of " + i, x.of(i, 1), want[i]);
        }
        Check.due("34: two, from 8 on, to 3 and 4", x.minds(2, 8, 3, 2), 2);
        Check.due("34: the third", x.of(2, 1), 99);
        Check.due("34: the fourth", x.of(3, 1), 55);
        Check.due("34: the fifth", x.of(4, 1), 54);
        Check.due("34: the sixth", x.of(5, 1), 0);
        Check.due("34: none", x.minds(2, 10, 7, 0), 0);
        Check.due("34: the last one", x.minds(2, 9, 7, 1), 1);
        Check.due("34: it weighs", x.of(7, 1), 54);
    }

    private static void weightsRefused() {
        TruthRope x = new TruthRope();
        x.walker(0, 50);
        x.walker(0, 50);
        x.sheet(0, 0, 3);
        x.sheet(1, 1, 3);
        Check.due("34: sheet 4", x.minds(4, 0, 0, 1), TruthRope.BAD);
        Check.due("34: no such one", x.minds(0, 0, 2, 1), TruthRope.BAD);
        Check.due("34: no such one for none", x.minds(0, 0, 2, 0), TruthRope.BAD);
        Check.due("34: n -1", x.minds(0, 0, 0, -1), TruthRope.BAD);
        Check.due("34: n 9", x.minds(0, 0, 0, 9), TruthRope.BAD);
        Check.due("34: beyond the last one", x.minds(0, 0, 1, 2), TruthRope.BAD);
        Check.due("34: BAD comes before -11", x.minds(2, 0, 1, 2), TruthRope.BAD);
        Check.due("34: a missing one", x.minds(2, 9, 1, 1), -11);
        Check.due("34: of shorts, outside too", x.minds(1, 9, 1, 1), -13);
        Check.due("34: i 4", x.minds(0, 4, 0, 0), -12);
        Check.due("34: i -1", x.minds(0, -1, 0, 0), -12);
        Check.due("34: i the greatest int", x.minds(0, Integer.MAX_VALUE, 0, 1), -12);
        Check.due("34: not so many", x.minds(0, 2, 0, 2), -12);
        Check.due("34: i 3, for none", x.minds(0, 3, 0, 0), 0);
        Check.due("34: nothing changed", x.of(0, 1) + x.of(1, 1), 100);
        Check.due("34: just so many", x.minds(0, 1, 0, 2), 2);
    }

    private static void shelves() {
        TruthRope x = new TruthRope();
        x.walker(2, 0);
        Check.due("38: shelf 4", x.shelf(4, 2, 0), TruthRope.BAD);
        Check.due("38: shelf -1", x.shelf(-1, 0, 0), TruthRope.BAD);
        Check.due("38: what 3", x.shelf(0, 3, 0), TruthRope.BAD);
        Check.due("38: what -1", x.shelf(0, -1, 0), TruthRope.BAD);
        Check.due("38: no such one", x.shelf(0, 0, 1), TruthRope.BAD);
        Check.due("38: no such sheet", x.shelf(0, 1, 4), TruthRope.BAD);
        Check.due("38: no such sheet either", x.shelf(0, 1, -1), TruthRope.BAD);
        Check.due("38: one of the walkers", x.shelf(3, 0, 0), 1);
        Check.due("38: refused", x.shelf(3, 1, 4), TruthRope.BAD);
        Check.due("39: it is there still", x.taken(3, 2), 0);
        Check.due("38: nothing, whatever n", x.shelf(3, 2, -50), 1);
        Check.due("39: it is empty", x.taken(3, 2), -11);
        x.shelf(3, 0, 0);
        Check.due("38: a missing sheet's row", x.shelf(3, 1, 0), 1);
        Check.due("39: that is nothing", x.taken(3, 2), -11);
        Check.due("39: for a row neither", x.taken(3, 10), -11);
        for (int as : new int[] {-1, 6, 9, 14, Integer.MIN_VALUE, Integer.MAX_VALUE}) {
            Check.due("39: taken(0, " + as + ")", x.taken(0, as), TruthRope.BAD);
        }
        Check.due("39: shelf 4", x.taken(4, 0), TruthRope.BAD);
        Check.due("39: shelf -1", x.taken(-1, 0), TruthRope.BAD);
    }

    private static void kindsOnShelves() {
        TruthRope x = new TruthRope();
        boolean[][] under = {
            {true, false, false, false, false, false},
            {true, true, false, false, false, false},
            {true, false, true, false, false, false},
            {true, true, false, true, false, false},
            {true, false, true, false, true, false},
            {true, false, false, false, false, true},
        };
        for (int kind = 0; kind < 6; kind++) {
            x.walker(kind, 0);
            x.shelf(1, 0, kind);
            for (int as = 0; as < 6; as++) {
                Check.due("39: kind " + kind + " as " + as, x.taken(1, as), under[kind][as] ? kind : -13);
            }
            Check.due("39: a thing for a row", x.taken(1, 10), -13);
        }
        x.mind(5, 4, 0);
        Check.due("39: of what kind it is now", x.taken(1, 2), 5);
    }

    private static void rowsOnShelves() {
        TruthRope x = new TruthRope();
        x.walker(0, 0);
        for (int sort = 0; sort < 4; sort++) {
            x.sheet(0, sort, 5 + sort);
            x.shelf(2, 1, 0);
            for (int as = 10; as < 14; as++) {
                Check.due("39: sort " + sort + " as " + as, x.taken(2, as), as - 10 == sort ? 5 + sort : -13);
            }
            for (int as = 0; as < 6; as++) {
                Check.due("39: a row as a thing", x.taken(2, as), -13);
            }
        }
        x.sheet(0, 0, 1);
        Check.due("38: the row itself", x.taken(2, 13), 8);
        x.sheet(0, -1, 0);
        Check.due("38: whatever the sheet becomes", x.taken(2, 13), 8);
        x.shelf(2, 0, 0);
        Check.due("38: a walker in its stead", x.taken(2, 13), -13);
        Check.due("39: that walker", x.taken(2, 0), 0);
    }
}
