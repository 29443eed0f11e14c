/**
 * Each sentence of the document that names a boundary: the last number that is allowed and the first that is not, the
 * empty and the full case, what wraps, and what is refused, with what it answers and that it changed nothing.
 */
public final class EdgesTest {
    public static void main(String[] args) {
        thePictureShowsAll();
        EdgesOfTerms.look();
        EdgesOfLaws.look();
        EdgesOfTrials.look();
        EdgesOfTexts.look();
        EdgesOfThings.look();
        EdgesOfPromises1To17.look();
        EdgesOfPromises18To33.look();
        EdgesOfPromises34To44.look();
        Sentence.allAreLookedAt();
        Check.finish();
    }

    /** A refused call is held to have changed nothing by a picture: so the picture must show each change. */
    private static void thePictureShowsAll() {
        String busy = Busy.picture(Busy.circus());
        Check.that("the same circus gives the same picture", busy.equals(Busy.picture(Busy.circus())));
        Sentence.Call[] changes = {
            x -> x.feed(0x20, 1), x -> x.circus(), x -> Check.circus(x, ""),
            x -> x.set(0, 5), x -> x.set(1, 5), x -> x.set(2, 5), x -> x.set(3, 5),
            x -> x.fact(0, 0), x -> x.fact(7, 1), x -> x.walker(0, 0),
            x -> x.mind(5, 1, 10), x -> x.mind(5, 5, 11), x -> x.say(5, 1, 0), x -> x.say(5, 0, 1),
            x -> x.stand(5, 9), x -> x.stand(Busy.FALLEN_ONE, x.of(Busy.FALLEN_ONE, 2)),
            x -> x.steps(1), x -> x.step(), x -> x.seed(4), x -> x.prove(0, 3), x -> x.prove(1, Busy.ROWS),
            x -> x.alterRow(3, 2, 9), x -> x.minds(Busy.BYTES_SHEET, 1, 5, 1),
            x -> x.sheet(Busy.BYTES_SHEET, 0, 3), x -> x.sheet(Busy.LONGS_SHEET, 3, 4),
            x -> x.sheet(Busy.INTS_SHEET, -1, 0), x -> x.sheet(Busy.MISSING_SHEET, 0, 0),
            x -> x.put(Busy.BYTES_SHEET, 2, 1), x -> x.put(Busy.LONGS_SHEET, 0, 1), x -> x.put(Busy.INTS_SHEET, 1, 1),
            x -> x.shelf(Busy.WALKER_SHELF, 0, 5), x -> x.shelf(Busy.WALKER_SHELF, 2, 0),
            x -> x.shelf(Busy.SHORTS_SHELF, 1, 0), x -> x.shelf(Busy.SHORTS_SHELF, 2, 0),
            x -> x.shelf(Busy.EMPTY_SHELF, 0, 0), x -> x.shelf(Busy.EMPTY_SHELF, 1, 0),
            x -> x.act(Busy.WALKER_SHELF, 0, 1), x -> x.act(Busy.EMPTY_SHELF, 0, 1), x -> x.keep(), x -> x.again(),
        };
        for (int i = 0; i < changes.length; i++) {
            TruthRope x = Busy.circus();
            changes[i].on(x);
            Check.that("the picture shows change " + i, !busy.equals(Busy.picture(x)));
        }
    }
}
