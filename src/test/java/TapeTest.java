/** Promises 2 and 3: THE TAPE, and a circus told in a text. */
public final class TapeTest {
    public static void main(String[] args) {
        feeding();
        aWholeText();
        whatIsNotTold();
        whatStays();
        goodTexts();
        faults();
        aFaultChangesNothing();
        eightAndNine();
        Check.finish();
    }

    private static void feeding() {
        TruthRope x = new TruthRope();
        Check.due("2: n 0", x.feed(0, 0), TruthRope.BAD);
        Check.due("2: n 9", x.feed(0, 9), TruthRope.BAD);
        Check.due("2: n -1", x.feed(0, -1), TruthRope.BAD);
        Check.due("2: n 1", x.feed(0x3b, 1), 1);
        for (int i = 0; i < 24; i++) {
            Check.due("2: n 8", x.feed(0x2020202020202020L, 8), 9 + 8 * i);
        }
        Check.due("2: more than 200", x.feed(0, 8), TruthRope.FULL);
        Check.due("2: BAD comes first", x.feed(0, 9), TruthRope.BAD);
        Check.due("2: the tape as it was", x.many(5), 193);
        Check.due("2: just 200", x.feed(0x20202020202020L, 7), 200);
        Check.due("2: one more", x.feed(0, 1), TruthRope.FULL);
        Check.due("3: a ';' first", x.circus(), -100);
        Check.due("3: the tape is used up", x.many(5), 0);
        Check.due("2: the lowest first", x.feed(0x3320746361666cL >>> 8, 6), 6);
        Check.due("2: only n of them", x.feed(0xffffffffffff3b30L, 2), 8);
        Check.due("3: 'fact 30;'", x.circus(), -105);
        x.feed(0x3320746361666cL >>> 8, 6);
        x.feed(0xffffffffffffff3bL, 1);
        Check.due("3: 'fact 3;'", x.circus(), 0);
        Check.due("3: fact 3 is so", x.state(3), 8);
    }

    private static void aWholeText() {
        TruthRope x = new TruthRope();
        Check.due("3: six", Check.circus(x, "walker;clown weight 0;child at 20;jester says 255;saint denies 255;"
            + "thinker weight 99 at 7 says 170 denies 85;fact 7;fact 0;plank 9;but 0;wit 5;doubt 99;"), 6);
        int[][] want = {
            {0, 10, 0, 0, 0, 0}, {1, 0, 0, 0, 0, 0}, {2, 10, 20, 0, 0, 0},
            {3, 10, 0, 255, 0, 0}, {4, 10, 0, 0, 255, 0}, {5, 99, 7, 170, 85, 0},
        };
        for (int i = 0; i < 6; i++) {
            for (int what = 0; what <= 5; what++) {
                Check.due("3: of(" + i + ", " + what + ")", x.of(i, what), want[i][what]);
            }
        }
        int[] laws = {9, 0, 5, 99};
        for (int law = 0; law < 4; law++) {
            Check.due("3: law " + law, x.lawOf(law), laws[law]);
        }
        Check.due("3: the facts", x.state(3), 129);
        Check.due("3: those across", x.state(1), 4);
    }

    private static void whatIsNotTold() {
        TruthRope x = new TruthRope();
        Check.circus(x, "walker at 5 says 3;clown weight 99;fact 1;plank 1;but 1;wit 1;doubt 1;");
        x.steps(3);
        x.fact(4, 1);
        Check.due("3: an empty tape is a text too", x.circus(), 0);
        int[] first = {8, 3, 2, 20};
        for (int law = 0; law < 4; law++) {
            Check.due("3: law " + law + " as at first", x.lawOf(law), first[law]);
        }
        for (int what = 0; what <= 5; what++) {
            Check.due("3: state " + what + " as at first", x.state(what), 0);
        }
        x.walker(0, 9);
        x.say(0, 1, 2);
        x.stand(0, 9);
        x.steps(1);
        Check.due("3: fallen before", x.many(2), 1);
        Check.circus(x, "walker;");
        int[] fresh = {0, 10, 0, 0, 0, 0};
        for (int what = 0; what <= 5; what++) {
            Check.due("3: of a new one " + what, x.of(0, what), fresh[what]);
        }
        x.walker(0, 9);
        x.stand(0, 9);
        x.stand(1, 9);
        x.say(1, 1, 2);
        x.steps(1);
        x.luck(3);
        Check.circus(x, "fact 0;");
        Check.due("3: STEP as at first", x.state(0), 0);
        Check.due("3: none has fallen", x.state(2), 0);
        x.walker(0, 1);
        x.walker(0, 1);
        Check.due("7: at place 0", x.of(0, 2) + x.of(1, 2), 0);
        Check.due("7: of no facts", x.of(1, 3) + x.of(1, 4), 0);
        Check.due("7: not fallen", x.of(0, 5) + x.of(1, 5), 0);
        Check.circus(x, "plank 1; plank 2; fact 1; fact 1;");
        Check.due("3: the latest law", x.lawOf(0), 2);
        Check.due("3: a fact told twice", x.state(3), 2);
    }

    private static void whatStays() {
        TruthRope fresh = new TruthRope();
        fresh.seed(-31);
        Check.circus(fresh, "walker;");
        Check.due("3: z stays", fresh.seed(0), -31);
        TruthRope x = new TruthRope();
        x.walker(0, 0);
        x.walker(2, 0);
        x.seed(77);
        x.sheet(0, 0, 3);
        x.put(0, 1, 5);
        x.shelf(0, 0, 1);
        x.shelf(1, 1, 0);
        x.act(0, 0, 1);
        x.keep();
        x.prove(0, 4);
        Check.due("3: one", Check.circus(x, "saint;"), 1);
        Check.due("3: z stays", x.seed(77), 77);
        Check.due("3: there are no rows", x.many(4), 0);
        Check.due("3: nor the first", x.row(0, 0), -9);
        Check.due("3: sheets stay", x.item(0, 0, 1), 5);
        Check.due("3: a shelf's row stays", x.taken(1, 10), 3);
        Check.due("3: a shelf's walker is gone", x.taken(0, 0), -11);
        Check.due("3: the trace stays", x.many(6), 2);
        Check.circus(x, "saint;saint;");
        Check.due("3: another of that number", x.taken(0, 4), 1);
        Check.due("3: what was kept stays", x.again(), 2);
    }

    private static void goodTexts() {
        good("", 0);
        good("    ", 0);
        good("walker ;", 1);
        good("  walker   ;  ", 1);
        good("walker weight10at20says3denies4;", 1);
        good("walker;clown;", 2);
        good("fact0;", 0);
        good("fact 007;", 0);
        good("walker weight 099 at 020 says 001 denies 254;", 1);
        good("walker at 1 denies 3;", 1);
        good("walker weight 1 says 3;", 1);
        good("plank0;but9;wit 0 ;doubt 0;", 0);
    }

    private static void good(String text, int want) {
        Check.due("3: '" + text + "'", Check.circus(new TruthRope(), text), want);
    }

    private static void faults() {
        faultAt("walker", 6);
        faultAt("walker   ", 9);
        faultAt("walker weight", 13);
        faultAt("walker weight ;", 14);
        faultAt("walker weight 100;", 14);
        faultAt("walker weight a;", 14);
        faultAt("walker weight 0001;", 14);
        faultAt("walker weight 1 2;", 16);
        faultAt("walker weight 1 weight 1;", 16);
        faultAt("walker at 1 weight 1;", 12);
        faultAt("walker says 1 at 1;", 14);
        faultAt("walker denies 1 says 2;", 16);
        faultAt("walker at 21;", 10);
        faultAt("walker says 256;", 12);
        faultAt("walker denies 256;", 14);
        faultAt("walker says 3 denies 2;", 21);
        faultAt("walker says 3 denies 12", 23);
        faultAt("walker says 3 denies", 20);
        faultAt("walker says 3 denies 1000", 21);
        faultAt("walker clown;", 7);
        faultAt("walker 5;", 7);
        faultAt("walkers;", 0);
        faultAt("walke;", 0);
        faultAt("walkerz;", 0);
        faultAt("walkera;", 0);
        faultAt("xalker;", 0);
        faultAt("zact 1;", 0);
        faultAt("walker 123456;", 7);
        faultAt("6666 1;", 0);
        faultAt("fact 1;z", 7);
        faultAt("Walker;", 0);
        faultAt("wAlker;", 0);
        faultAt("walker;;", 7);
        faultAt(";", 0);
        faultAt("5;", 0);
        faultAt("  weight 5;", 2);
        faultAt("fact 8;", 5);
        faultAt("fact ;", 5);
        faultAt("fact", 4);
        faultAt("fact 1", 6);
        faultAt("fact 1 2;", 7);
        faultAt("fact 0001;", 5);
        faultAt("fact one;", 5);
        faultAt("plank 10;", 6);
        faultAt("but 10;", 4);
        faultAt("wit 10;", 4);
        faultAt("doubt 100;", 6);
        faultAt("doubt 9 9;", 8);
        faultAt("fact 1;\n", 7);
        faultAt("fact\t1;", 4);
        faultAt("fact -1;", 5);
        faultAt("fact 1;" + (char) 233, 7);
        faultAt("fact 1;" + (char) 0, 7);
        faultAt("fact 1;" + (char) 160, 7);
        faultAt("fact 1 " + (char) 187, 7);
        faultAt("walkerweight 5;", 0);
        faultAt("walker weightat 5;", 7);
        faultAt("fact 1:", 6);
        faultAt("{walker;}", 0);
        faultAt("fact `;", 5);
        faultAt("fact /;", 5);
    }

    private static void faultAt(String text, int place) {
        Check.due("3: '" + text + "'", Check.circus(new TruthRope(), text), -100 - place);
    }

    private static void aFaultChangesNothing() {
        TruthRope x = new TruthRope();
        Check.circus(x, "walker at 5 says 3;clown weight 99;fact 1;plank 1;");
        x.steps(2);
        x.prove(0, 3);
        x.shelf(0, 0, 1);
        x.act(0, 1, 1);
        x.seed(9);
        String before = Check.picture(x);
        Check.due("3: a fault", Check.circus(x, "saint;fact 2;wit 9;oh"), -119);
        Check.that("3: it changes nothing", before.equals(Check.picture(x)));
        Check.due("3: but that the tape is used up", x.circus(), 0);
    }

    private static void eightAndNine() {
        TruthRope x = new TruthRope();
        String eight = "walker;clown;child;jester;saint;thinker;clown;child;";
        Check.due("3: eight", Check.circus(x, eight), 8);
        Check.due("3: a ninth", Check.circus(x, eight + " saint weight 1000"), -100 - eight.length() - 1);
        Check.due("3: eight still", x.many(0), 8);
        Check.due("3: eight, and what is none", Check.circus(x, eight + "fact 3;"), 8);
        Check.circus(x, "clown at 20;");
        Check.circus(x, "fact 3;");
        Check.due("3: from one across to none", x.state(1), 0);
        Check.circus(x, "walkers");
        Check.due("3: the end of a text that was longer before", Check.circus(x, "walker"), -106);
        Check.circus(x, "fact 123");
        Check.due("3: also in a number", Check.circus(x, "fact 1"), -106);
        Check.due("3: and of one told whole", Check.circus(x, "walker;"), 1);
        Check.due("3: from eight to none", Check.circus(x, "fact 3;"), 0);
        StringBuilder full = new StringBuilder();
        while (full.length() < 200) {
            full.append("but1;");
        }
        Check.due("3: a full tape", Check.circus(x, full.toString()), 0);
    }
}
