/** Promises 18 to 27: what is tried, and changes nothing. */
public final class TriedTest {
    public static void main(String[] args) {
        reaching();
        overAndFalls();
        ends();
        sayings();
        kinds();
        turned();
        loads();
        two();
        fitting();
        nothingChanges();
        Check.finish();
    }

    private static void reaching() {
        TruthRope x = new TruthRope();
        x.walker(3, 0);
        x.walker(5, 30);
        Check.due("18: by 0", x.reaches(0, 0), 0);
        Check.due("18: a jester by 1", x.reaches(0, 1), 3);
        Check.due("18: a jester by 2", x.reaches(0, 2), 5);
        Check.due("18: a jester by 3", x.reaches(0, 3), 8);
        Check.due("18: by 60", x.reaches(0, 60), 20);
        x.steps(1);
        Check.due("18: a jester by 1 from an odd step", x.reaches(0, 1), 5);
        Check.due("18: a thinker falls on the way", x.reaches(1, 60), 7);
        Check.due("18: n 61", x.reaches(0, 61), TruthRope.BAD);
        Check.due("18: n -1", x.reaches(0, -1), TruthRope.BAD);
        Check.due("18: no such one", x.reaches(2, 1), TruthRope.BAD);
        x.steps(20);
        Check.due("18: one that has fallen stays", x.reaches(1, 60), 7);
    }

    private static void overAndFalls() {
        TruthRope x = new TruthRope();
        x.walker(0, 0);
        x.walker(1, 0);
        x.walker(5, 0);
        x.walker(0, 1);
        Check.due("19: a walker", x.over(0), 20);
        Check.due("19: a clown", x.over(1), 10);
        Check.due("19: a thinker falls", x.over(2), TruthRope.NONE);
        Check.due("19: one that falls at once", x.over(3), TruthRope.NONE);
        Check.due("20: a walker doesn't", x.falls(0), TruthRope.NONE);
        Check.due("20: a thinker", x.falls(2), 11);
        Check.due("20: one that falls at once", x.falls(3), 1);
        x.stand(0, 20);
        Check.due("19: across now", x.over(0), 0);
        Check.due("20: one across falls not", x.falls(0), TruthRope.NONE);
        x.stand(0, 19);
        Check.due("19: from 19", x.over(0), 1);
        x.steps(1);
        Check.due("20: fallen now", x.falls(3), 0);
        Check.due("19: one that has fallen", x.over(3), TruthRope.NONE);
        Check.due("19: no such one", x.over(4), TruthRope.BAD);
        Check.due("20: no such one", x.falls(4), TruthRope.BAD);
        Check.due("20: none below 0", x.falls(-1), TruthRope.BAD);
    }

    private static void ends() {
        TruthRope x = new TruthRope();
        Check.due("21: without walkers", x.end(), 0);
        x.walker(0, 1);
        Check.due("21: one that falls at once", x.end(), 1);
        x.walker(1, 0);
        Check.due("21: a clown too", x.end(), 10);
        x.walker(5, 0);
        Check.due("21: a thinker too", x.end(), 11);
        x.walker(0, 0);
        Check.due("21: a walker too", x.end(), 20);
        x.steps(4);
        Check.due("21: from there", x.end(), 16);
        x.steps(16);
        Check.due("21: all at rest", x.end(), 0);
    }

    private static void sayings() {
        TruthRope x = new TruthRope();
        x.walker(0, 20);
        x.fact(1, 1);
        x.fact(2, 1);
        x.fact(7, 1);
        Check.due("22: three it denies rightly", x.sayFor(0, 20), 1 + 8 + 16);
        x.mind(0, 0, 0);
        Check.due("22: none is the fewest", x.sayFor(0, 20), 0);
        Check.due("22: too few steps", x.sayFor(0, 19), TruthRope.NONE);
        x.mind(0, 0, 64);
        Check.due("22: all of them", x.sayFor(0, 20), 256 * (2 + 4 + 128) + 1 + 8 + 16 + 32 + 64);
        x.mind(0, 0, 65);
        Check.due("22: heavier than that", x.sayFor(0, 20), TruthRope.NONE);
        x.mind(0, 1, 24);
        Check.due("22: a clown denies what is so", x.sayFor(0, 10), 2 + 4 + 128);
        x.mind(0, 1, 25);
        Check.due("22: and says what is not", x.sayFor(0, 10), 256 + 2 + 4 + 128);
        x.mind(0, 4, 0);
        Check.due("22: a saint that must be fast", x.sayFor(0, 4), 1 + 8 + 16 + 32);
        Check.due("22: and faster", x.sayFor(0, 3), 256 * 2 + 1 + 8 + 16 + 32 + 64);
        Check.due("22: too fast", x.sayFor(0, 2), TruthRope.NONE);
        x.set(0, 0);
        x.set(1, 0);
        x.mind(0, 2, 16);
        Check.due("22: a child that must be silent", x.sayFor(0, 20), 0);
        x.mind(0, 5, 0);
        x.stand(0, 12);
        Check.due("22: a thinker can't", x.sayFor(0, 30), TruthRope.NONE);
        x.stand(0, 20);
        Check.due("22: one across", x.sayFor(0, 1), 0);
        x.mind(0, 0, 99);
        x.stand(0, 19);
        x.steps(1);
        x.mind(0, 0, 0);
        Check.due("22: one that has fallen", x.sayFor(0, 30), TruthRope.NONE);
        Check.due("22: n 0", x.sayFor(0, 0), TruthRope.BAD);
        Check.due("22: n 31", x.sayFor(0, 31), TruthRope.BAD);
        Check.due("22: no such one", x.sayFor(1, 1), TruthRope.BAD);
        everySaying();
    }

    /** All sayings tried one by one, by calls alone, must come to the same. */
    private static void everySaying() {
        for (int kind = 0; kind < 6; kind++) {
            for (int weight : new int[] {3, 19, 40}) {
                int n = kind == 4 ? 6 : 17;
                int want = TruthRope.NONE;
                int fewest = 9;
                for (int yes = 0; yes < 256; yes++) {
                    for (int no = 0; no < 256; no++) {
                        int said = Integer.bitCount(yes) + Integer.bitCount(no);
                        if ((yes & no) == 0 && said < fewest && ofThree(kind, weight, yes, no).reaches(0, n) == 20) {
                            fewest = said;
                            want = yes * 256 + no;
                        }
                    }
                }
                int got = ofThree(kind, weight, 0, 0).sayFor(0, n);
                Check.due("22: kind " + kind + " of weight " + weight, got, want);
            }
        }
    }

    private static TruthRope ofThree(int kind, int weight, int yes, int no) {
        TruthRope x = new TruthRope();
        x.fact(2, 1);
        x.fact(3, 1);
        x.fact(6, 1);
        x.set(1, 2);
        x.walker(kind, weight);
        x.say(0, yes, no);
        x.stand(0, 3);
        return x;
    }

    private static void kinds() {
        TruthRope x = new TruthRope();
        x.walker(0, 0);
        Check.due("23: a jester goes farthest", x.kindFor(0, 3), 3);
        Check.due("23: also by 1", x.kindFor(0, 1), 3);
        Check.due("23: of several the least", x.kindFor(0, 10), 1);
        Check.due("23: also with walkers", x.kindFor(0, 30), 0);
        x.say(0, 15, 0);
        x.fact(0, 1);
        x.fact(1, 1);
        x.fact(2, 1);
        x.fact(3, 1);
        Check.due("23: a saint strides by what is right", x.kindFor(0, 2), 4);
        x.say(0, 0, 0);
        x.mind(0, 0, 50);
        Check.due("23: only a thinker bears as much", x.kindFor(0, 2), 5);
        x.mind(0, 0, 99);
        Check.due("23: none moves", x.kindFor(0, 2), 0);
        Check.due("23: its kind stays", x.of(0, 0), 0);
        Check.due("23: n 0", x.kindFor(0, 0), TruthRope.BAD);
        Check.due("23: n 31", x.kindFor(0, 31), TruthRope.BAD);
        Check.due("23: no such one", x.kindFor(1, 1), TruthRope.BAD);
    }

    private static void turned() {
        TruthRope x = new TruthRope();
        x.walker(0, 8);
        x.say(0, 64 + 32, 0);
        Check.due("24: two that would do, but for the other's but", x.turnedFor(0, 5), TruthRope.NONE);
        x.mind(0, 0, 5);
        Check.due("24: the least of two", x.turnedFor(0, 5), 5);
        Check.due("24: also by 1", x.turnedFor(0, 1), 5);
        x.fact(5, 1);
        Check.due("24: it goes as it is", x.turnedFor(0, 5), TruthRope.NONE);
        x.mind(0, 1, 5);
        Check.due("24: no more than now", x.turnedFor(0, 5), TruthRope.NONE);
        x.say(0, 32, 0);
        Check.due("24: a clown wants it not so", x.turnedFor(0, 5), 5);
        x.mind(0, 4, 0);
        x.say(0, 1, 128);
        Check.due("24: a saint goes faster", x.turnedFor(0, 3), 0);
        Check.due("24: if there is room", x.turnedFor(0, 30), TruthRope.NONE);
        Check.due("24: the facts stay", x.state(3), 32);
        Check.due("24: n 0", x.turnedFor(0, 0), TruthRope.BAD);
        Check.due("24: n 31", x.turnedFor(0, 31), TruthRope.BAD);
        Check.due("24: no such one", x.turnedFor(1, 1), TruthRope.BAD);
    }

    private static void loads() {
        TruthRope x = new TruthRope();
        x.walker(2, 99);
        Check.due("25: a child", x.loadFor(0, 20), 16);
        Check.due("25: too few steps", x.loadFor(0, 19), TruthRope.NONE);
        x.mind(0, 0, 0);
        Check.due("25: a walker of nothing", x.loadFor(0, 30), 0);
        x.say(0, 1, 0);
        Check.due("25: of what is wrong", x.loadFor(0, 30), TruthRope.NONE);
        x.stand(0, 20);
        Check.due("25: one across", x.loadFor(0, 1), 99);
        x.stand(0, 19);
        x.say(0, 0, 1);
        Check.due("25: by 1", x.loadFor(0, 1), 8);
        x.mind(0, 4, 3);
        x.stand(0, 0);
        x.say(0, 0, 255);
        x.set(0, 9);
        Check.due("25: 99 at most", x.loadFor(0, 30), 99);
        Check.due("25: its weight stays", x.of(0, 1), 3);
        x.mind(0, 0, 99);
        x.steps(1);
        Check.due("25: one that has fallen", x.loadFor(0, 30), TruthRope.NONE);
        Check.due("25: n 0", x.loadFor(0, 0), TruthRope.BAD);
        Check.due("25: n 31", x.loadFor(0, 31), TruthRope.BAD);
        Check.due("25: no such one", x.loadFor(1, 1), TruthRope.BAD);
    }

    private static void two() {
        TruthRope x = new TruthRope();
        x.walker(0, 0);
        x.walker(0, 0);
        x.say(0, 1 + 2 + 4, 8 + 16);
        x.say(1, 1 + 8, 2 + 4 + 16 + 32);
        Check.due("26: agreed", x.both(0, 1, 0), 2);
        Check.due("26: agreed, the other way", x.both(1, 0, 0), 2);
        Check.due("26: clash", x.both(0, 1, 1), 3);
        Check.due("26: clash, the other way", x.both(1, 0, 1), 3);
        Check.due("26: one and the same", x.both(1, 1, 0), TruthRope.BAD);
        Check.due("26: what 2", x.both(0, 1, 2), TruthRope.BAD);
        Check.due("26: what -1", x.both(0, 1, -1), TruthRope.BAD);
        Check.due("26: no such one", x.both(2, 1, 0), TruthRope.BAD);
        Check.due("26: no such other", x.both(1, 2, 0), TruthRope.BAD);
    }

    private static void fitting() {
        TruthRope x = new TruthRope();
        x.walker(4, 0);
        x.say(0, 2, 4);
        for (int sort = 0; sort < 4; sort++) {
            x.sheet(sort, sort, 2);
            x.put(sort, 0, -1);
            x.put(sort, 1, 6);
            Check.due("27: both right", x.fits(sort, 0, 0), 64);
            Check.due("27: the least", x.fits(sort, 0, 1), 2);
            x.put(sort, 1, 4);
            Check.due("27: one of two", x.fits(sort, 0, 0), 128);
            Check.due("27: the least of those", x.fits(sort, 0, 1), 0);
            x.put(sort, 0, 3);
            Check.due("27: the first is told too", x.fits(sort, 0, 0), 0);
            Check.due("27: none", x.fits(sort, 0, 1), TruthRope.NONE);
        }
        x.put(0, 0, 255);
        Check.due("27: 255 as a byte is any", x.fits(0, 0, 0), 128);
        x.put(1, 0, 255);
        Check.due("27: 255 as a short is not", x.fits(1, 0, 0), 0);
        x.sheet(0, 0, 0);
        Check.due("27: nothing told", x.fits(0, 0, 0), 256);
        Check.due("27: nothing told, the least", x.fits(0, 0, 1), 0);
        x.sheet(0, -1, 0);
        Check.due("27: a missing one", x.fits(0, 0, 0), -11);
        Check.due("27: BAD comes first", x.fits(0, 1, 0), TruthRope.BAD);
        Check.due("27: what 2 of a missing one", x.fits(0, 0, 2), TruthRope.BAD);
        Check.due("27: what -1", x.fits(1, 0, -1), TruthRope.BAD);
        Check.due("27: sheet 4", x.fits(4, 0, 0), TruthRope.BAD);
        Check.due("27: sheet -1", x.fits(-1, 0, 0), TruthRope.BAD);
        longFits();
    }

    private static void longFits() {
        TruthRope x = new TruthRope();
        x.walker(1, 1);
        x.fact(0, 1);
        x.say(0, 128, 0);
        x.sheet(3, 3, 40);
        for (int i = 0; i < 40; i++) {
            x.put(3, i, Math.min(20, 2 * (i + 1)));
        }
        Check.due("27: all the way over, and rest", x.fits(3, 0, 0), 128);
        x.put(3, 39, 19);
        Check.due("27: the last counts too", x.fits(3, 0, 0), 0);
        for (int i = 0; i < 40; i++) {
            x.put(3, i, 0);
        }
        Check.due("27: one that falls stays", x.fits(3, 0, 1), 128);
    }

    private static void nothingChanges() {
        TruthRope x = new TruthRope();
        Check.circus(x, "jester weight 1 says 3;saint weight 9 says 1 denies 2;thinker at 2;clown weight 7 denies 16;fact 4;");
        x.sheet(0, 0, 3);
        x.steps(1);
        x.prove(1, 5);
        String before = Check.picture(x);
        x.reaches(0, 9);
        x.over(1);
        x.falls(2);
        x.end();
        x.sayFor(3, 12);
        x.kindFor(0, 5);
        x.turnedFor(1, 5);
        x.loadFor(2, 30);
        x.both(0, 1, 0);
        x.fits(0, 1, 0);
        x.does(0, 0);
        x.luck(9);
        x.odds(3, 1, 0);
        x.hope(3, 0);
        x.judge(2);
        Check.that("18 to 27: nothing changed", before.equals(Check.picture(x)));
    }
}
