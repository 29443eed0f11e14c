/** Promises 1 and 4 to 12: what a new object is, its laws and facts, and walkers told call by call. */
public final class CircusByCallsTest {
    public static void main(String[] args) {
        aNewObject();
        laws();
        facts();
        walkers();
        whatOneIs();
        whatOneDoes();
        minding();
        saying();
        standing();
        Check.finish();
    }

    private static void aNewObject() {
        TruthRope x = new TruthRope();
        for (int what = 0; what <= 6; what++) {
            Check.due("1: many(" + what + ")", x.many(what), 0);
        }
        for (int what = 0; what <= 5; what++) {
            Check.due("1: state(" + what + ")", x.state(what), 0);
        }
        Check.due("1: again()", x.again(), TruthRope.NONE);
        Check.due("1: of(0, 0)", x.of(0, 0), TruthRope.BAD);
        Check.due("1: seed(5)", x.seed(5), 1);
        Check.due("1: trace(0)", x.trace(0), TruthRope.NONE);
        Check.due("1: put(0, 0, 1)", x.put(0, 0, 1), -11);
        Check.due("1: taken(0, 0)", x.taken(0, 0), -11);
        Check.due("1: row(0, 0)", x.row(0, 0), -9);
    }

    private static void laws() {
        TruthRope x = new TruthRope();
        int[] first = {8, 3, 2, 20};
        int[] most = {9, 9, 9, 99};
        for (int law = 0; law < 4; law++) {
            Check.due("5: lawOf(" + law + ")", x.lawOf(law), first[law]);
            Check.due("4: set to the most", x.set(law, most[law]), first[law]);
            Check.due("4: set beyond the most", x.set(law, most[law] + 1), TruthRope.BAD);
            Check.due("4: set below 0", x.set(law, -1), TruthRope.BAD);
            Check.due("5: a refused set changed nothing", x.lawOf(law), most[law]);
            Check.due("4: set to 0", x.set(law, 0), most[law]);
            Check.due("5: lawOf then", x.lawOf(law), 0);
        }
        for (int law : new int[] {-1, 4, Integer.MIN_VALUE, Integer.MAX_VALUE}) {
            Check.due("4: set(" + law + ", 1)", x.set(law, 1), TruthRope.BAD);
            Check.due("5: lawOf(" + law + ")", x.lawOf(law), TruthRope.BAD);
        }
    }

    private static void facts() {
        TruthRope x = new TruthRope();
        Check.due("6: fact(7, 1)", x.fact(7, 1), 0);
        Check.due("6: fact(7, 1) again", x.fact(7, 1), 1);
        Check.due("6: fact(0, 1)", x.fact(0, 1), 0);
        Check.due("17: the facts as a set", x.state(3), 129);
        Check.due("6: fact(7, 0)", x.fact(7, 0), 1);
        Check.due("6: fact(7, 0) again", x.fact(7, 0), 0);
        Check.due("6: fact(8, 1)", x.fact(8, 1), TruthRope.BAD);
        Check.due("6: fact(-1, 1)", x.fact(-1, 1), TruthRope.BAD);
        Check.due("6: fact(0, 2)", x.fact(0, 2), TruthRope.BAD);
        Check.due("6: fact(0, -1)", x.fact(0, -1), TruthRope.BAD);
        Check.due("6: the set then", x.state(3), 1);
    }

    private static void walkers() {
        TruthRope x = new TruthRope();
        Check.due("7: kind -1", x.walker(-1, 0), TruthRope.BAD);
        Check.due("7: kind 6", x.walker(6, 0), TruthRope.BAD);
        Check.due("7: weight -1", x.walker(0, -1), TruthRope.BAD);
        Check.due("7: weight 100", x.walker(0, 100), TruthRope.BAD);
        Check.due("7: none came", x.many(0), 0);
        for (int i = 0; i < 8; i++) {
            Check.due("7: number " + i, x.walker(i % 6, i == 0 ? 99 : 0), i);
        }
        Check.due("7: a ninth", x.walker(0, 0), TruthRope.FULL);
        Check.due("7: a ninth of no kind", x.walker(6, 0), TruthRope.BAD);
        Check.due("7: a ninth of no weight", x.walker(0, 100), TruthRope.BAD);
        Check.due("7: eight there are", x.many(0), 8);
    }

    private static void whatOneIs() {
        TruthRope x = new TruthRope();
        x.walker(3, 42);
        int[] first = {3, 42, 0, 0, 0, 0};
        for (int what = 0; what <= 5; what++) {
            Check.due("8: of(0, " + what + ")", x.of(0, what), first[what]);
        }
        x.walker(0, 1);
        x.say(1, 5, 2);
        x.stand(1, 9);
        x.steps(1);
        int[] then = {0, 1, 10, 5, 2, 0};
        x.fact(0, 1);
        x.fact(2, 1);
        x.stand(1, 9);
        x.steps(1);
        for (int what = 0; what <= 5; what++) {
            Check.due("8: of(1, " + what + ")", x.of(1, what), then[what]);
        }
        Check.due("8: the heavy jester fell", x.of(0, 5), 1);
        Check.due("8: what -1", x.of(0, -1), TruthRope.BAD);
        Check.due("8: what 6", x.of(0, 6), TruthRope.BAD);
        Check.due("8: walker 2", x.of(2, 0), TruthRope.BAD);
        Check.due("8: walker -1", x.of(-1, 0), TruthRope.BAD);
    }

    /** YES 0, 1, 2 and NO 3, 4 with 0, 1 and 3 SO: RIGHT 0, 1, 4; WRONG 2, 3; three FACTS untold. */
    private static void whatOneDoes() {
        TruthRope x = new TruthRope();
        int[] bears = {3 * 8 - 2 * 3, 2 * 8 - 3 * 3, 18 + 6, 7 + 2, 48, 40};
        int[] strides = {1, 2, 1, 3, 4, 1};
        x.fact(0, 1);
        x.fact(1, 1);
        x.fact(3, 1);
        for (int kind = 0; kind < 6; kind++) {
            x.walker(kind, 0);
            x.say(kind, 7, 24);
            Check.due("9: bears, kind " + kind, x.does(kind, 0), 1000 + bears[kind]);
            Check.due("9: strides, kind " + kind, x.does(kind, 1), 1000 + strides[kind]);
            Check.due("9: right, kind " + kind, x.does(kind, 2), 1003);
            Check.due("9: wrong, kind " + kind, x.does(kind, 3), 1002);
        }
        x.steps(1);
        Check.due("9: a jester strides less at an odd step", x.does(3, 1), 1002);
        Check.due("9: others stride as before", x.does(1, 1), 1002);
        Check.due("9: a thinker at 1", x.does(5, 0), 1030);
        x.say(5, 0, 0);
        Check.due("9: a thinker that says nothing", x.does(5, 0), 1080);
        x.say(5, 4, 0);
        Check.due("9: a thinker that says what is wrong", x.does(5, 0), 1030);
        x.say(5, 1, 0);
        Check.due("9: a thinker that says what is right", x.does(5, 0), 1030);
        x.say(5, 1, 2);
        Check.due("9: a thinker that says both", x.does(5, 0), 1030);
        x.say(5, 0, 0);
        x.stand(5, 20);
        Check.due("9: a thinker at 20", x.does(5, 0), 890);
        x.say(0, 0, 255);
        x.mind(0, 0, 99);
        x.steps(1);
        Check.due("9: it fell", x.of(0, 5), 1);
        Check.due("9: one that has fallen bears too", x.does(0, 0), 1000 + 5 * 8 - 3 * 3);
        x.set(0, 9);
        x.set(1, 0);
        x.set(2, 7);
        Check.due("9: by PLANK", x.does(0, 0), 1045);
        Check.due("9: by BUT", x.does(1, 0), 1018);
        Check.due("9: by WIT", x.does(3, 0), 1025);
        Check.due("9: what 4", x.does(0, 4), TruthRope.BAD);
        Check.due("9: what -1", x.does(0, -1), TruthRope.BAD);
        Check.due("9: no such one", x.does(6, 0), TruthRope.BAD);
    }

    private static void minding() {
        TruthRope x = new TruthRope();
        x.walker(0, 5);
        x.say(0, 3, 4);
        x.stand(0, 7);
        Check.due("10: mind(0, 5, 99)", x.mind(0, 5, 99), 0);
        Check.due("10: its kind", x.of(0, 0), 5);
        Check.due("10: its weight", x.of(0, 1), 99);
        Check.due("10: its place stays", x.of(0, 2), 7);
        Check.due("10: its YES stays", x.of(0, 3), 3);
        Check.due("10: its NO stays", x.of(0, 4), 4);
        x.steps(1);
        Check.due("10: the same again", x.mind(0, 5, 99), 5);
        Check.due("10: it has fallen still", x.of(0, 5), 1);
        Check.due("10: no such one", x.mind(1, 0, 0), TruthRope.BAD);
        Check.due("10: kind 6", x.mind(0, 6, 0), TruthRope.BAD);
        Check.due("10: kind -1", x.mind(0, -1, 0), TruthRope.BAD);
        Check.due("10: weight 100", x.mind(0, 0, 100), TruthRope.BAD);
        Check.due("10: weight -1", x.mind(0, 0, -1), TruthRope.BAD);
        Check.due("10: nothing changed", x.of(0, 0) * 100 + x.of(0, 1), 599);
    }

    private static void saying() {
        TruthRope x = new TruthRope();
        x.walker(0, 5);
        Check.due("11: at first of none", x.say(0, 255, 0), 0);
        Check.due("11: of eight", x.say(0, 1, 254), 8);
        Check.due("11: of both sets", x.say(0, 4, 2), 8);
        Check.due("11: of two", x.say(0, 0, 0), 2);
        x.say(0, 16, 32);
        Check.due("11: in both", x.say(0, 3, 2), TruthRope.BAD);
        Check.due("11: yes 256", x.say(0, 256, 0), TruthRope.BAD);
        Check.due("11: yes -1", x.say(0, -1, 0), TruthRope.BAD);
        Check.due("11: no 256", x.say(0, 0, 256), TruthRope.BAD);
        Check.due("11: no -1", x.say(0, 0, -1), TruthRope.BAD);
        Check.due("11: no such one", x.say(1, 0, 0), TruthRope.BAD);
        Check.due("11: YES stays", x.of(0, 3), 16);
        Check.due("11: NO stays", x.of(0, 4), 32);
    }

    private static void standing() {
        TruthRope x = new TruthRope();
        x.walker(0, 5);
        Check.due("12: stand(0, 20)", x.stand(0, 20), 0);
        Check.due("12: stand(0, 3)", x.stand(0, 3), 20);
        x.steps(1);
        Check.due("12: it fell", x.of(0, 5), 1);
        Check.due("12: place 21", x.stand(0, 21), TruthRope.BAD);
        Check.due("12: place -1", x.stand(0, -1), TruthRope.BAD);
        Check.due("12: no such one", x.stand(1, 0), TruthRope.BAD);
        Check.due("12: it has fallen still", x.of(0, 5), 1);
        Check.due("12: stand(0, 3) again", x.stand(0, 3), 3);
        Check.due("12: it has not fallen", x.of(0, 5), 0);
    }
}
