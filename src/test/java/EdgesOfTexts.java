/** The boundaries that part 2 names of THE TAPE and of a circus told in a text. */
final class EdgesOfTexts {
    private EdgesOfTexts() {
    }

    static void look() {
        twoHundredBytes();
        usedUp();
        numbers();
        withoutOptions();
        noInYes();
        facts();
        byItAlone();
        names();
        digits();
        blanks();
        otherBytes();
        outOfRange();
        theNinth();
        theEnd();
        theFirstFault();
        order();
    }

    private static TruthRope told(String text, int want, Sentence s) {
        TruthRope x = new TruthRope();
        s.gives("'" + text + "'", Check.circus(x, text), want);
        return x;
    }

    private static void faultAt(Sentence s, String text, int place) {
        told(text, -100 - place, s);
    }

    private static void twoHundredBytes() {
        Sentence s = new Sentence("2", "THE TAPE takes bytes, 200 at most");
        TruthRope x = new TruthRope();
        for (int i = 1; i <= 200; i++) {
            s.gives("byte " + i, x.feed(0x20, 1), i);
        }
        s.gives("one more", x.feed(0x20, 1), TruthRope.FULL).gives("200 still", x.many(5), 200);
        for (int has = 192; has <= 200; has++) {
            for (int n = 1; n <= 8; n++) {
                int bytes = has;
                int more = n;
                if (has + n <= 200) {
                    s.gives(n + " more behind " + has, Busy.withTapeOf(has).feed(0x2020202020202020L, n), has + n);
                } else {
                    s.refuses(() -> Busy.withTapeOf(bytes), n + " more behind " + has,
                        y -> y.feed(0x2020202020202020L, more), TruthRope.FULL);
                }
            }
        }
        StringBuilder last = new StringBuilder("wit 7;");
        while (last.length() < 193) {
            last.append(' ');
        }
        TruthRope y = told(last + "fact 5;", 0, s);
        s.gives("what the last bytes tell", y.state(3), 32).gives("what the first tell", y.lawOf(2), 7);
        faultAt(s, last + "fact 5 ", 200);
    }

    private static void usedUp() {
        Sentence s = new Sentence("2", "circus() uses it up");
        TruthRope x = new TruthRope();
        s.gives("a good text", Check.circus(x, "walker;"), 1).gives("bytes then", x.many(5), 0)
            .gives("an empty TAPE", x.circus(), 0)
            .gives("a text with a FAULT", Check.circus(x, "walker"), -106).gives("bytes then", x.many(5), 0)
            .gives("200 bytes go in again", Check.feed(x, " ".repeat(200)), 200)
            .gives("blanks alone", x.circus(), 0).gives("bytes then", x.many(5), 0);
    }

    private static void lawTold(Sentence s, String name, int law, int most) {
        int at = name.length() + 1;
        for (int v : new int[] {0, 1, most - 1, most}) {
            s.gives(name + " " + v, told(name + " " + v + ";", 0, s).lawOf(law), v);
        }
        faultAt(s, name + " " + (most + 1) + ";", at);
        faultAt(s, name + " 999;", at);
        faultAt(s, name + " -1;", at);
    }

    private static void numbers() {
        Sentence s = new Sentence("2", "WEIGHT (10 without), PLACE (0 to 20; 0 without), YES (0 to 255, as a set;"
            + " 0 without), NO (likewise; none that is in YES)");
        numberTold(s, "weight", 1, 99);
        numberTold(s, "at", 2, 20);
        numberTold(s, "says", 3, 255);
        numberTold(s, "denies", 4, 255);
        Sentence others = new Sentence("2", "The others: the LAW.");
        lawTold(others, "plank", 0, 9);
        lawTold(others, "but", 1, 9);
        lawTold(others, "wit", 2, 9);
        lawTold(others, "doubt", 3, 99);
    }

    private static void numberTold(Sentence s, String name, int what, int most) {
        String before = "child " + name + " ";
        for (int v : new int[] {0, 1, most - 1, most}) {
            s.gives(name + " " + v, told(before + v + ";", 1, s).of(0, what), v);
        }
        faultAt(s, before + (most + 1) + ";", before.length());
        faultAt(s, before + "999;", before.length());
        faultAt(s, before + "-1;", before.length());
    }

    private static void withoutOptions() {
        Sentence s = new Sentence("2", "WEIGHT (10 without), PLACE (0 to 20; 0 without), YES (0 to 255, as a set;"
            + " 0 without)");
        String[] kinds = {"walker", "clown", "child", "jester", "saint", "thinker"};
        for (int kind = 0; kind < 6; kind++) {
            TruthRope x = told(kinds[kind] + ";", 1, s);
            int[] want = {kind, 10, 0, 0, 0, 0};
            for (int what = 0; what <= 5; what++) {
                s.gives("of a " + kinds[kind] + ", what " + what, x.of(0, what), want[what]);
            }
        }
        Sentence more = new Sentence("2", "KIND (walker | clown | child | jester | saint | thinker): one more");
        TruthRope eight = told("clown;child;jester;saint;thinker;walker;saint;clown;", 8, more);
        int[] of = {1, 2, 3, 4, 5, 0, 4, 1};
        for (int i = 0; i < 8; i++) {
            more.gives("the KIND of " + i, eight.of(i, 0), of[i]);
        }
        more.gives("without any", told("wit 3;", 0, more).many(0), 0);
    }

    private static void noInYes() {
        Sentence s = new Sentence("2", "none that is in YES");
        Sentence fault = new Sentence("2", "a NO with what is in YES");
        TruthRope x = told("walker says 85 denies 170;", 1, s);
        s.gives("YES", x.of(0, 3), 85).gives("NO", x.of(0, 4), 170);
        s.gives("all in YES, none in NO", told("walker says 255 denies 0;", 1, s).of(0, 3), 255);
        s.gives("none in YES, all in NO", told("walker says 0 denies 255;", 1, s).of(0, 4), 255);
        faultAt(fault, "walker says 1 denies 1;", 21);
        faultAt(fault, "walker says 128 denies 128;", 23);
        faultAt(fault, "walker says 255 denies 1;", 23);
        faultAt(fault, "walker says 1 denies 255;", 21);
        faultAt(fault, "walker says 6 denies 9;clown says 6 denies 12;", 43);
        told("walker says 1;clown denies 1;", 2, fault);
    }

    private static void facts() {
        Sentence s = new Sentence("2", "fact: it is SO.");
        for (int fact = 0; fact < 8; fact++) {
            s.gives("FACT " + fact, told("fact " + fact + ";", 0, s).state(3), 1 << fact);
        }
        faultAt(s, "fact 8;", 5);
        faultAt(s, "fact 10;", 5);
        faultAt(s, "fact 255;", 5);
        faultAt(s, "fact -1;", 5);
        s.gives("all", told("fact 0;fact 1;fact 2;fact 3;fact 4;fact 5;fact 6;fact 7;", 0, s).state(3), 255);
    }

    private static void byItAlone() {
        Sentence s = new Sentence("2", "It is all by it alone (what it doesn't tell is as at first); z stays.");
        String[] texts = {"", "   ", "fact 4;", "plank 0;", "walker;", "saint says 3;clown at 20;"};
        for (String text : texts) {
            TruthRope fresh = told(text, Check.circus(new TruthRope(), text), s);
            TruthRope busy = Busy.withoutTape();
            Check.circus(busy, text);
            s.gives("z", busy.seed(1), 20202);
            for (int what : new int[] {0, 1, 2, 3, 4, 5}) {
                s.gives("many " + what + " by '" + text + "'", busy.many(what), fresh.many(what));
                s.gives("state " + what + " by '" + text + "'", busy.state(what), fresh.state(what));
            }
            for (int law = 0; law < 4; law++) {
                s.gives("LAW " + law + " by '" + text + "'", busy.lawOf(law), fresh.lawOf(law));
            }
            for (int i = 0; i < 8; i++) {
                for (int what = 0; what <= 5; what++) {
                    s.gives("of " + i + ", " + what + " by '" + text + "'", busy.of(i, what), fresh.of(i, what));
                }
            }
        }
    }

    private static void names() {
        Sentence s = new Sentence("2", "NAMES are rows of letters a to z, NUMBERS rows of digits (1 to 3), both as long"
            + " as they go");
        faultAt(s, "walkerclown;", 0);
        faultAt(s, "factfact 1;", 0);
        faultAt(s, "walker weightat 5;", 7);
        String[] all = {"walker", "clown", "child", "jester", "saint", "thinker", "fact", "plank", "but", "wit", "doubt"};
        for (String name : all) {
            for (int i = 0; i < name.length(); i++) {
                String other = name.substring(0, i) + "q" + name.substring(i + 1);
                faultAt(s, other + " 1;", 0);
                faultAt(s, name.substring(0, i) + name.substring(i + 1) + " 1;", 0);
            }
            faultAt(s, "q" + name + " 1;", 0);
            faultAt(s, name + "q 1;", 0);
        }
        for (String name : new String[] {"weight", "at", "says", "denies"}) {
            faultAt(s, "saint " + name + " a;", 7 + name.length());
            for (int i = 0; i < name.length(); i++) {
                faultAt(s, "saint " + name.substring(0, i) + "q" + name.substring(i + 1) + " 1;", 6);
            }
        }
        for (String name : new String[] {"fact", "plank", "but", "wit", "doubt"}) {
            faultAt(s, name + " a;", 1 + name.length());
        }
        faultAt(s, "walke r;", 0);
        faultAt(s, "w;", 0);
        faultAt(s, "walkerz;", 0);
        faultAt(s, "walkera;", 0);
        faultAt(s, "walker z;", 7);
        faultAt(s, "walker a;", 7);
        faultAt(s, "walker`;", 6);
        faultAt(s, "walker{;", 6);
        faultAt(s, "Walker;", 0);
        faultAt(s, "walkeR;", 0);
        faultAt(s, "wAlker;", 0);
        faultAt(s, "walkerZ;", 6);
        faultAt(s, "walkerA;", 6);
        faultAt(s, "fact 1/;", 6);
        faultAt(s, "fact 1:;", 6);
        faultAt(s, "fact /;", 5);
        faultAt(s, "fact :;", 5);
    }

    private static void digits() {
        Sentence s = new Sentence("2", "NUMBERS rows of digits (1 to 3)");
        s.gives("one digit", told("doubt 9;", 0, s).lawOf(3), 9);
        s.gives("two", told("doubt 09;", 0, s).lawOf(3), 9);
        s.gives("three", told("doubt 009;", 0, s).lawOf(3), 9);
        s.gives("three of a set", told("walker says 255;", 1, s).of(0, 3), 255);
        Sentence more = new Sentence("2", "a NUMBER out of range, of more digits");
        faultAt(more, "doubt 0009;", 6);
        faultAt(more, "doubt 0000;", 6);
        faultAt(more, "fact 0000000000000001;", 5);
        faultAt(more, "fact 4294967296;", 5);
        faultAt(more, "fact 4294967297;", 5);
        faultAt(more, "walker weight 0010;", 14);
        faultAt(more, "walker at 0001;", 10);
        faultAt(more, "walker says 0001;", 12);
        faultAt(more, "walker denies 0001;", 14);
        faultAt(s, "doubt ;", 6);
        faultAt(s, "doubt", 5);
        faultAt(s, "plank 1 2;", 8);
    }

    private static void blanks() {
        Sentence s = new Sentence("2", "blanks (32) part them (a NAME and a NUMBER may touch), and stand elsewhere as"
            + " one likes");
        told("", 0, s);
        told(" ", 0, s);
        told("     ", 0, s);
        TruthRope x = told("walker weight11at7says3denies4;fact0;plank1;but2;wit3;doubt4;", 1, s);
        int[] want = {0, 11, 7, 3, 4, 0};
        for (int what = 0; what <= 5; what++) {
            s.gives("touching, of 0, " + what, x.of(0, what), want[what]);
        }
        told("   walker   weight   11   at   7   says   3   denies   4   ;   fact   0   ;   ", 1, s);
        told("walker;   ", 1, s);
        told("   walker;", 1, s);
        told("walker;fact 1;clown ;fact 2 ; child;", 3, s);
        faultAt(s, "walkerweight 11;", 0);
        faultAt(s, "plank 1 0;", 8);
        faultAt(s, "fa ct 1;", 0);
        faultAt(s, "walker\tweight 11;", 6);
        faultAt(s, "walker\n;", 6);
        faultAt(s, "walker\r;", 6);
        faultAt(s, "walker" + (char) 31 + ";", 6);
        faultAt(s, "walker!;", 6);
        faultAt(s, "walker" + (char) 0 + ";", 6);
        faultAt(s, "walker" + (char) 160 + ";", 6);
    }

    private static void otherBytes() {
        Sentence s = new Sentence("2", "or other byte that can't stand there");
        for (int b = 0; b < 256; b++) {
            boolean isBlank = b == ' ';
            boolean isDigit = b >= '0' && b <= '9';
            boolean isLetter = b >= 'a' && b <= 'z';
            String sign = String.valueOf((char) b);
            told(sign, isBlank ? 0 : -100, s);
            told(" fact 1;  " + sign, isBlank ? 0 : -110, s);
            told("fact 1" + sign, b == ';' ? 0 : isBlank ? -107 : isDigit ? -105 : -106, s);
            told("walker" + sign, b == ';' ? 1 : isBlank ? -107 : isLetter ? -100 : -106, s);
            told("plank" + sign + ";", isDigit ? 0 : isLetter ? -100 : isBlank ? -106 : -105, s);
        }
    }

    private static void outOfRange() {
        Sentence s = new Sentence("2", "FAULT: the place (from 0) of the first byte of the first NAME, NUMBER or other"
            + " byte that can't stand there or is not as told (a NUMBER out of range, of more digits, a NO with what is"
            + " in YES; the NAME of a ninth one)");
        faultAt(s, ";", 0);
        faultAt(s, "5", 0);
        faultAt(s, "weight", 0);
        faultAt(s, "   weight 5;", 3);
        faultAt(s, "fact fact;", 5);
        faultAt(s, "fact   fact;", 7);
        faultAt(s, "fact 1 1;", 7);
        faultAt(s, "fact 1 plank 1;", 7);
        faultAt(s, "fact 1;;", 7);
        faultAt(s, "walker clown;", 7);
        faultAt(s, "walker fact 1;", 7);
        faultAt(s, "walker 10;", 7);
        faultAt(s, "walker weight 100;", 14);
        faultAt(s, "walker weight   100;", 16);
        faultAt(s, "walker weight100;", 13);
        faultAt(s, "walker at 21;", 10);
        faultAt(s, "walker says 256;", 12);
        faultAt(s, "walker denies 256;", 14);
        faultAt(s, "walker says 4 denies 4;", 21);
        String far = " ".repeat(150);
        faultAt(s, far + "fact 8;", 155);
        faultAt(s, " ".repeat(199) + "!", 199);
    }

    private static void theNinth() {
        Sentence s = new Sentence("2", "the NAME of a ninth one");
        String seven = "walker;clown;child;jester;saint;thinker;walker;";
        told(seven + "saint;", 8, s);
        told(seven + "saint;fact 1;wit 1;", 8, s);
        faultAt(s, seven + "saint;clown;", seven.length() + 6);
        faultAt(s, seven + "saint;clown", seven.length() + 6);
        faultAt(s, seven + "saint;  clown weight 1000;", seven.length() + 8);
        faultAt(s, seven + "saint;fact 1;child;", seven.length() + 13);
        s.refuses(Busy::withoutTape, "a ninth changes nothing", x -> Check.circus(x, seven + "saint;clown;"),
            -100 - seven.length() - 6);
        TruthRope eight = new TruthRope();
        Check.circus(eight, seven + "clown;");
        s.gives("eight behind eight", Check.circus(eight, seven + "saint;"), 8);
    }

    private static void theEnd() {
        Sentence s = new Sentence("2", "or the end (how many bytes there are), if more must come");
        String whole = "walker weight 1 at 2 says 3 denies 4;fact 5;";
        for (int length = 0; length < whole.length(); length++) {
            String text = whole.substring(0, length);
            boolean ends = length == 0 || text.endsWith(";");
            boolean cutName = !ends && !knownName(text);
            int fault = cutName ? text.lastIndexOf(' ', length) + 1 : length;
            if (cutName && text.indexOf(';') > fault) {
                fault = text.indexOf(';') + 1;
            }
            told(text, ends ? (length == 0 ? 0 : 1) : -100 - fault, s);
        }
        faultAt(s, "walker   ", 9);
        faultAt(s, "fact   ", 7);
        faultAt(s, "fact 1   ", 9);
        faultAt(s, "walker weight   ", 16);
        faultAt(s, "walker weight 5   ", 18);
        faultAt(s, "walker;  clown  ", 16);
        faultAt(s, " ".repeat(196) + "fact", 200);
        faultAt(s, " ".repeat(194) + "walker", 200);
        told(" ".repeat(193) + "walker;", 1, s);
    }

    /** Whether the last NAME of a text, if one stands at its end, is one that may stand there. */
    private static boolean knownName(String text) {
        int from = text.length();
        while (from > 0 && text.charAt(from - 1) >= 'a' && text.charAt(from - 1) <= 'z') {
            from--;
        }
        String name = text.substring(from);
        return name.isEmpty() || java.util.List.of("walker", "weight", "at", "says", "denies", "fact").contains(name);
    }

    private static void theFirstFault() {
        Sentence s = new Sentence("2", "of the first byte of the first NAME, NUMBER or other byte");
        faultAt(s, "fact 8;fact 9;", 5);
        faultAt(s, "fact 1;fact 9;oh;", 12);
        faultAt(s, "oh fact 9", 0);
        faultAt(s, "walker weight 100 at 21 says 256", 14);
        faultAt(s, "walker weight 99 at 21 says 256", 20);
        faultAt(s, "walker weight 99 at 20 says 256", 28);
        faultAt(s, "walker weight 99 at 20 says 255 denies 1", 39);
    }

    private static void order() {
        Sentence s = new Sentence("2", "{ KIND [ weight N ] [ at N ] [ says N ] [ denies N ] ; | fact N ; | plank N ;"
            + " | but N ; | wit N ; | doubt N ; }");
        String[] names = {"weight", "at", "says", "denies"};
        for (int first = 0; first < 4; first++) {
            for (int second = 0; second < 4; second++) {
                String before = "saint " + names[first] + " 2 ";
                int want = second > first ? 1 : -100 - before.length();
                told(before + names[second] + " 1;", want, s);
            }
        }
        for (String name : names) {
            faultAt(s, name + " 1;", 0);
            faultAt(s, "fact 1 " + name + " 1;", 7);
        }
        told("fact 1;walker;plank 1;clown;but 1;", 2, s);
        s.gives("the latest of two", told("wit 1;wit 9;", 0, s).lawOf(2), 9);
    }
}
