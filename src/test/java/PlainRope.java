import java.math.BigInteger;
import java.util.ArrayList;
import java.util.List;
import java.util.regex.Matcher;
import java.util.regex.Pattern;

/**
 * The document written down a second time, as plainly as the Java library lets one and with no thought of cost:
 * kinds are classes, tries are copies of the whole circus, searches try all there is. ModelTest holds TruthRope to it.
 */
final class PlainRope {
    static final int BAD = -1, FULL = -2, NONE = -3;

    static final class Parted extends RuntimeException {
        private static final long serialVersionUID = 1L;
    }

    static final String[] KIND_NAMES = {"walker", "clown", "child", "jester", "saint", "thinker"};
    static final String[] LAW_NAMES = {"plank", "but", "wit", "doubt"};
    static final int[] LAW_MOST = {9, 9, 9, 99};

    static class Walker {
        Circus in;
        int number, weight, place, yes, no;
        boolean fallen;
        List<Integer> trace = new ArrayList<>();

        int kind() {
            return 0;
        }

        int right() {
            int right = 0;
            for (int f = 0; f < 8; f++) {
                boolean so = in.facts[f];
                if ((yes >> f & 1) == 1 && so || (no >> f & 1) == 1 && !so) {
                    right++;
                }
            }
            return right;
        }

        int said() {
            return Integer.bitCount(yes) + Integer.bitCount(no);
        }

        int wrong() {
            return said() - right();
        }

        int bears() {
            return in.laws[0] * right() - in.laws[1] * wrong();
        }

        int strides() {
            return 1;
        }

        int leans(int x) {
            trace.add(10);
            return x * 8 - number;
        }

        int sways(int x) {
            trace.add(11);
            return leans(x) + place;
        }

        int parts(int x) {
            trace.add(12);
            if (place == number) {
                throw new Parted();
            }
            return x / (place - number);
        }

        int treads(int x) {
            trace.add(13);
            return sways(x) ^ 110;
        }
    }

    static class Clown extends Walker {
        @Override int kind() {
            return 1;
        }

        @Override int bears() {
            return in.laws[0] * wrong() - in.laws[1] * right();
        }

        @Override int strides() {
            return super.strides() + 1;
        }

        @Override int sways(int x) {
            trace.add(20);
            return 0 - super.sways(x);
        }
    }

    static class Child extends Walker {
        @Override int kind() {
            return 2;
        }

        @Override int bears() {
            return super.bears() + 2 * (8 - said());
        }

        @Override int leans(int x) {
            trace.add(30);
            return super.leans(x) + 7;
        }

        @Override int treads(int x) {
            trace.add(31);
            return super.treads(x) - parts(number);
        }
    }

    static class Jester extends Clown {
        @Override int kind() {
            return 3;
        }

        @Override int bears() {
            return super.bears() + in.laws[2];
        }

        @Override int strides() {
            return super.strides() + (in.step % 2 == 0 ? 1 : 0);
        }

        @Override int parts(int x) {
            trace.add(50);
            return super.parts(x + 4) - number;
        }

        @Override int leans(int x) {
            trace.add(51);
            return super.leans(x) ^ 3;
        }
    }

    static class Saint extends Child {
        @Override int kind() {
            return 4;
        }

        @Override int bears() {
            return 2 * super.bears();
        }

        @Override int strides() {
            return super.strides() + right();
        }

        @Override int leans(int x) {
            trace.add(40);
            return super.leans(x) * 2;
        }

        @Override int sways(int x) {
            trace.add(41);
            return super.sways(x) - leans(place);
        }
    }

    static class Thinker extends Walker {
        @Override int kind() {
            return 5;
        }

        @Override int bears() {
            return 90 - 10 * place - (said() > 0 ? 50 : 0);
        }

        @Override int treads(int x) {
            trace.add(60);
            return super.treads(x) * 4;
        }

        @Override int parts(int x) {
            trace.add(61);
            return super.parts(x) + leans(number);
        }
    }

    static Walker newOf(int kind) {
        switch (kind) {
            case 1: return new Clown();
            case 2: return new Child();
            case 3: return new Jester();
            case 4: return new Saint();
            case 5: return new Thinker();
            default: return new Walker();
        }
    }

    static boolean isA(Walker w, int kind) {
        switch (kind) {
            case 1: return w instanceof Clown;
            case 2: return w instanceof Child;
            case 3: return w instanceof Jester;
            case 4: return w instanceof Saint;
            case 5: return w instanceof Thinker;
            default: return true;
        }
    }

    static final class Circus {
        int[] laws = {8, 3, 2, 20};
        boolean[] facts = new boolean[8];
        int step = 0;
        int z = 1;
        List<Walker> walkers = new ArrayList<>();

        Circus copy() {
            Circus c = new Circus();
            c.laws = laws.clone();
            c.facts = facts.clone();
            c.step = step;
            c.z = z;
            for (Walker w : walkers) {
                c.add(w.kind(), w);
            }
            return c;
        }

        Walker add(int kind, Walker like) {
            Walker w = newOf(kind);
            w.in = this;
            w.number = walkers.size();
            w.weight = like.weight;
            w.place = like.place;
            w.yes = like.yes;
            w.no = like.no;
            w.fallen = like.fallen;
            walkers.add(w);
            return w;
        }

        void become(int number, int kind) {
            Walker was = walkers.get(number);
            Walker w = newOf(kind);
            w.in = this;
            w.number = number;
            w.weight = was.weight;
            w.place = was.place;
            w.yes = was.yes;
            w.no = was.no;
            w.fallen = was.fallen;
            walkers.set(number, w);
        }

        void tread() {
            for (Walker w : walkers) {
                if (w.place != 20 && !w.fallen) {
                    if (w.bears() >= w.weight) {
                        w.place = Math.min(20, w.place + w.strides());
                    } else {
                        w.fallen = true;
                    }
                }
            }
            step++;
        }

        Circus after(int n) {
            Circus c = copy();
            for (int i = 0; i < n; i++) {
                c.tread();
            }
            return c;
        }

        void treadByDraws() {
            z = z * 1103515245 + 12345;
            int fact = (z >>> 16) % 8;
            z = z * 1103515245 + 12345;
            if ((z >>> 16) % 100 < laws[3]) {
                facts[fact] = !facts[fact];
            }
            tread();
        }

        int across() {
            return (int) walkers.stream().filter(w -> w.place == 20).count();
        }

        int fallen() {
            return (int) walkers.stream().filter(w -> w.fallen).count();
        }
    }

    Circus now = new Circus();
    Circus kept = null;
    StringBuilder tape = new StringBuilder();
    List<int[]> rows = new ArrayList<>();
    Object[] sheets = new Object[4];
    Object[] shelves = new Object[4];
    List<Integer> trace = new ArrayList<>();

    boolean one(int w) {
        return w >= 0 && w < now.walkers.size();
    }

    static boolean in(int v, int low, int high) {
        return v >= low && v <= high;
    }

    int feed(long eight, int n) {
        if (!in(n, 1, 8)) {
            return BAD;
        }
        if (tape.length() + n > 200) {
            return FULL;
        }
        for (int i = 0; i < n; i++) {
            tape.append((char) (eight >> 8 * i & 255));
        }
        return tape.length();
    }

    /** All tokens first, then a walk over them. */
    private static final class Told extends RuntimeException {
        private static final long serialVersionUID = 1L;
        final int fault;

        Told(int fault) {
            this.fault = fault;
        }
    }

    private List<String> tokens;
    private List<Integer> places;
    private int at;

    int circus() {
        String text = tape.toString();
        tape.setLength(0);
        tokens = new ArrayList<>();
        places = new ArrayList<>();
        Matcher m = Pattern.compile("[a-z]+|[0-9]+|[^ ]", Pattern.DOTALL).matcher(text);
        while (m.find()) {
            tokens.add(m.group());
            places.add(m.start());
        }
        tokens.add("");
        places.add(text.length());
        at = 0;
        Circus told = new Circus();
        told.z = now.z;
        try {
            while (!tokens.get(at).isEmpty()) {
                sentence(told);
            }
        } catch (Told fault) {
            return -100 - fault.fault;
        }
        now = told;
        rows.clear();
        return now.walkers.size();
    }

    private void sentence(Circus told) {
        String name = tokens.get(at);
        int kind = List.of(KIND_NAMES).indexOf(name);
        int law = List.of(LAW_NAMES).indexOf(name);
        if (kind >= 0 && told.walkers.size() < 8) {
            at++;
            Walker like = new Walker();
            like.weight = option("weight", 99, 10);
            like.place = option("at", 20, 0);
            like.yes = option("says", 255, 0);
            int numberAt = places.get(Math.min(at + 1, places.size() - 1));
            like.no = option("denies", 255, 0);
            if ((like.yes & like.no) != 0) {
                throw new Told(numberAt);
            }
            told.add(kind, like);
        } else if (law >= 0) {
            at++;
            told.laws[law] = number(LAW_MOST[law]);
        } else if (name.equals("fact")) {
            at++;
            told.facts[number(7)] = true;
        } else {
            throw new Told(places.get(at));
        }
        if (!tokens.get(at).equals(";")) {
            throw new Told(places.get(at));
        }
        at++;
    }

    private int option(String name, int most, int without) {
        if (!tokens.get(at).equals(name)) {
            return without;
        }
        at++;
        return number(most);
    }

    private int number(int most) {
        if (!tokens.get(at).matches("[0-9]{1,3}") || Integer.parseInt(tokens.get(at)) > most) {
            throw new Told(places.get(at));
        }
        return Integer.parseInt(tokens.get(at++));
    }

    int set(int law, int v) {
        if (!in(law, 0, 3) || !in(v, 0, LAW_MOST[law])) {
            return BAD;
        }
        int was = now.laws[law];
        now.laws[law] = v;
        return was;
    }

    int lawOf(int law) {
        return in(law, 0, 3) ? now.laws[law] : BAD;
    }

    int fact(int fact, int v) {
        if (!in(fact, 0, 7) || !in(v, 0, 1)) {
            return BAD;
        }
        int was = now.facts[fact] ? 1 : 0;
        now.facts[fact] = v == 1;
        return was;
    }

    int walker(int kind, int weight) {
        if (!in(kind, 0, 5) || !in(weight, 0, 99)) {
            return BAD;
        }
        if (now.walkers.size() == 8) {
            return FULL;
        }
        Walker like = new Walker();
        like.weight = weight;
        return now.add(kind, like).number;
    }

    int of(int walker, int what) {
        if (!one(walker) || !in(what, 0, 5)) {
            return BAD;
        }
        Walker w = now.walkers.get(walker);
        return new int[] {w.kind(), w.weight, w.place, w.yes, w.no, w.fallen ? 1 : 0}[what];
    }

    int does(int walker, int what) {
        if (!one(walker) || !in(what, 0, 3)) {
            return BAD;
        }
        Walker w = now.walkers.get(walker);
        return 1000 + new int[] {w.bears(), w.strides(), w.right(), w.wrong()}[what];
    }

    int mind(int walker, int kind, int weight) {
        if (!one(walker) || !in(kind, 0, 5) || !in(weight, 0, 99)) {
            return BAD;
        }
        int was = now.walkers.get(walker).kind();
        now.become(walker, kind);
        now.walkers.get(walker).weight = weight;
        return was;
    }

    int say(int walker, int yes, int no) {
        if (!one(walker) || !in(yes, 0, 255) || !in(no, 0, 255) || (yes & no) != 0) {
            return BAD;
        }
        Walker w = now.walkers.get(walker);
        int was = w.said();
        w.yes = yes;
        w.no = no;
        return was;
    }

    int stand(int walker, int place) {
        if (!one(walker) || !in(place, 0, 20)) {
            return BAD;
        }
        Walker w = now.walkers.get(walker);
        int was = w.place;
        w.place = place;
        w.fallen = false;
        return was;
    }

    int steps(int n) {
        if (!in(n, 1, 60)) {
            return BAD;
        }
        now = now.after(n);
        return now.across();
    }

    int seed(int v) {
        int was = now.z;
        now.z = v;
        return was;
    }

    int step() {
        now.treadByDraws();
        return now.across();
    }

    int luck(int n) {
        if (!in(n, 1, 30)) {
            return BAD;
        }
        int sure = now.after(1).fallen();
        int z = now.z;
        int many = 0;
        for (int i = 0; i < n; i++) {
            Circus c = now.copy();
            c.z = z;
            c.treadByDraws();
            z = c.z;
            many += c.fallen() > sure ? 1 : 0;
        }
        return many;
    }

    int state(int what) {
        int across = 0, fallen = 0, facts = 0, places = 0;
        for (Walker w : now.walkers) {
            across |= w.place == 20 ? 1 << w.number : 0;
            fallen |= w.fallen ? 1 << w.number : 0;
            places += w.place;
        }
        for (int f = 0; f < 8; f++) {
            facts |= now.facts[f] ? 1 << f : 0;
        }
        return in(what, 0, 5) ? new int[] {now.step, across, fallen, facts, places, held()}[what] : BAD;
    }

    private static int clash(Walker a, Walker b) {
        int many = 0;
        for (int f = 0; f < 8; f++) {
            int said = says(a, f) * says(b, f);
            many += said < 0 ? 1 : 0;
        }
        return many;
    }

    private static int says(Walker w, int f) {
        return (w.yes >> f & 1) - (w.no >> f & 1);
    }

    private int held() {
        int n = now.walkers.size();
        int most = 0;
        for (int set = 0; set < 1 << n; set++) {
            boolean peace = true;
            for (int i = 0; i < n; i++) {
                for (int j = 0; j < i; j++) {
                    if ((set >> i & set >> j & 1) == 1 && clash(now.walkers.get(i), now.walkers.get(j)) > 0) {
                        peace = false;
                    }
                }
            }
            most = peace ? Math.max(most, Integer.bitCount(set)) : most;
        }
        return most;
    }

    int reaches(int walker, int n) {
        return one(walker) && in(n, 0, 60) ? now.after(n).walkers.get(walker).place : BAD;
    }

    int over(int walker) {
        if (!one(walker)) {
            return BAD;
        }
        for (int n = 0; n <= 60; n++) {
            if (now.after(n).walkers.get(walker).place == 20) {
                return n;
            }
        }
        return NONE;
    }

    int falls(int walker) {
        if (!one(walker)) {
            return BAD;
        }
        for (int n = 0; n <= 60; n++) {
            if (now.after(n).walkers.get(walker).fallen) {
                return n;
            }
        }
        return NONE;
    }

    int end() {
        for (int n = 0; n <= 60; n++) {
            if (now.after(n).walkers.stream().allMatch(w -> w.place == 20 || w.fallen)) {
                return n;
            }
        }
        return NONE;
    }

    /** The circus with one walker of it alone: what the others do doesn't bear on it. */
    private Circus alone(int walker) {
        Circus c = now.copy();
        for (int i = c.walkers.size() - 1; i >= 0; i--) {
            if (i != walker) {
                c.walkers.remove(i);
            }
        }
        return c;
    }

    int sayFor(int walker, int n) {
        if (!one(walker) || !in(n, 1, 30)) {
            return BAD;
        }
        int fewest = 99;
        int best = NONE;
        Circus c = alone(walker);
        for (int yes = 0; yes < 256; yes++) {
            for (int no = 0; no < 256; no++) {
                int said = Integer.bitCount(yes) + Integer.bitCount(no);
                if ((yes & no) == 0 && said < fewest) {
                    c.walkers.get(0).yes = yes;
                    c.walkers.get(0).no = no;
                    if (c.after(n).across() == 1) {
                        fewest = said;
                        best = 256 * yes + no;
                    }
                }
            }
        }
        return best;
    }

    int kindFor(int walker, int n) {
        if (!one(walker) || !in(n, 1, 30)) {
            return BAD;
        }
        int best = 0;
        int most = -1;
        for (int kind = 0; kind < 6; kind++) {
            Circus c = now.copy();
            c.become(walker, kind);
            int reached = c.after(n).walkers.get(walker).place;
            if (reached > most) {
                most = reached;
                best = kind;
            }
        }
        return best;
    }

    int turnedFor(int walker, int n) {
        if (!one(walker) || !in(n, 1, 30)) {
            return BAD;
        }
        int best = NONE;
        int most = reaches(walker, n);
        for (int f = 0; f < 8; f++) {
            Circus c = now.copy();
            c.facts[f] = !c.facts[f];
            int reached = c.after(n).walkers.get(walker).place;
            if (reached > most) {
                most = reached;
                best = f;
            }
        }
        return best;
    }

    int loadFor(int walker, int n) {
        if (!one(walker) || !in(n, 1, 30)) {
            return BAD;
        }
        int best = NONE;
        for (int weight = 0; weight <= 99; weight++) {
            Circus c = now.copy();
            c.walkers.get(walker).weight = weight;
            best = c.after(n).walkers.get(walker).place == 20 ? weight : best;
        }
        return best;
    }

    int both(int walker, int other, int what) {
        if (!one(walker) || !one(other) || walker == other || !in(what, 0, 1)) {
            return BAD;
        }
        Walker a = now.walkers.get(walker);
        Walker b = now.walkers.get(other);
        int agreed = 0;
        for (int f = 0; f < 8; f++) {
            agreed += says(a, f) * says(b, f) > 0 ? 1 : 0;
        }
        return what == 0 ? agreed : clash(a, b);
    }

    int fits(int sheet, int walker, int what) {
        if (!in(sheet, 0, 3) || !one(walker) || !in(what, 0, 1)) {
            return BAD;
        }
        if (sheets[sheet] == null) {
            return -11;
        }
        int many = 0;
        for (int set = 0; set < 256; set++) {
            Circus c = alone(walker);
            for (int f = 0; f < 8; f++) {
                c.facts[f] = (set >> f & 1) == 1;
            }
            boolean fits = true;
            for (int i = 0; i < size(sheets[sheet]); i++) {
                c.tread();
                long told = read(sheets[sheet], i);
                fits &= told == -1 || told == c.walkers.get(0).place;
            }
            if (fits && what == 1) {
                return set;
            }
            many += fits ? 1 : 0;
        }
        return what == 1 ? NONE : many;
    }

    private static long part(BigInteger above, BigInteger below, int part) {
        BigInteger common = above.gcd(below);
        return (part == 0 ? above : below).divide(common).longValueExact();
    }

    long odds(int n, int k, int part) {
        if (!in(n, 0, 8) || !in(k, 0, n) || !in(part, 0, 1)) {
            return BAD;
        }
        BigInteger above = BigInteger.ZERO;
        for (int set = 0; set < 1 << n; set++) {
            if (Integer.bitCount(set) == k) {
                above = above.add(BigInteger.valueOf(now.laws[3]).pow(k)
                    .multiply(BigInteger.valueOf(100 - now.laws[3]).pow(n - k)));
            }
        }
        return part(above, BigInteger.valueOf(100).pow(n), part);
    }

    long hope(int n, int part) {
        if (!in(n, 0, 99) || !in(part, 0, 1)) {
            return BAD;
        }
        return part(BigInteger.valueOf(n).multiply(BigInteger.valueOf(now.laws[3])), BigInteger.valueOf(100), part);
    }

    private int[] rowAfter(int walker, int n) {
        Circus c = now.after(n);
        Walker w = c.walkers.get(walker);
        return new int[] {w.place, w.fallen ? 1 : 0, c.across()};
    }

    int prove(int walker, int n) {
        if (!one(walker) || !in(n, 1, 10)) {
            return BAD;
        }
        rows.clear();
        for (int i = 1; i <= n; i++) {
            rows.add(rowAfter(walker, i));
        }
        return n;
    }

    int row(int i, int what) {
        return in(i, 0, rows.size() - 1) && in(what, 0, 2) ? rows.get(i)[what] : -9;
    }

    int alterRow(int i, int what, int v) {
        int was = row(i, what);
        if (in(i, 0, rows.size() - 1) && in(what, 0, 2)) {
            rows.get(i)[what] = v;
        }
        return was;
    }

    int judge(int walker) {
        if (!one(walker)) {
            return BAD;
        }
        for (int i = 0; i < rows.size(); i++) {
            if (!java.util.Arrays.equals(rows.get(i), rowAfter(walker, i + 1))) {
                return i + 1;
            }
        }
        return 0;
    }

    private static int size(Object row) {
        return java.lang.reflect.Array.getLength(row);
    }

    private static long read(Object row, int i) {
        return java.lang.reflect.Array.getLong(row, i);
    }

    private static int sortOf(Object row) {
        return row instanceof byte[] ? 0 : row instanceof short[] ? 1 : row instanceof int[] ? 2 : 3;
    }

    int minds(int sheet, int i, int walker, int n) {
        if (!in(sheet, 0, 3) || !one(walker) || !in(n, 0, 8) || walker + n > now.walkers.size()) {
            return BAD;
        }
        if (sheets[sheet] == null) {
            return -11;
        }
        if (!(sheets[sheet] instanceof byte[])) {
            return -13;
        }
        byte[] bytes = (byte[]) sheets[sheet];
        if (!in(i, 0, bytes.length) || i + n > bytes.length) {
            return -12;
        }
        for (int j = 0; j < n; j++) {
            now.walkers.get(walker + j).weight = Math.max(0, Math.min(99, bytes[i + j]));
        }
        return n;
    }

    int sheet(int sheet, int sort, int n) {
        if (!in(sheet, 0, 3) || !in(sort, -1, 3) || sort >= 0 && n > 40) {
            return BAD;
        }
        if (sort >= 0 && n < 0) {
            return -14;
        }
        sheets[sheet] = sort < 0 ? null : sort == 0 ? new byte[n] : sort == 1 ? new short[n]
            : sort == 2 ? (Object) new int[n] : new long[n];
        return 1;
    }

    int put(int sheet, int i, int v) {
        if (!in(sheet, 0, 3)) {
            return BAD;
        }
        if (sheets[sheet] == null) {
            return -11;
        }
        if (!in(i, 0, size(sheets[sheet]) - 1)) {
            return -12;
        }
        if (sheets[sheet] instanceof byte[] bytes) {
            bytes[i] = (byte) v;
        } else if (sheets[sheet] instanceof short[] shorts) {
            shorts[i] = (short) v;
        } else if (sheets[sheet] instanceof int[] ints) {
            ints[i] = v;
        } else if (sheets[sheet] instanceof long[] longs) {
            longs[i] = v;
        }
        return 1;
    }

    int item(int sheet, int sort, int i) {
        if (!in(sheet, 0, 3) || !in(sort, 0, 3)) {
            return BAD;
        }
        if (sheets[sheet] == null) {
            return -11;
        }
        if (sortOf(sheets[sheet]) != sort) {
            return -13;
        }
        return in(i, 0, size(sheets[sheet]) - 1) ? (int) read(sheets[sheet], i) : -12;
    }

    int shelf(int shelf, int what, int n) {
        if (!in(shelf, 0, 3) || !in(what, 0, 2) || what == 0 && !one(n) || what == 1 && !in(n, 0, 3)) {
            return BAD;
        }
        shelves[shelf] = what == 0 ? (Object) Integer.valueOf(n) : what == 1 ? sheets[n] : null;
        return 1;
    }

    private Object thing(int shelf) {
        if (shelves[shelf] instanceof Integer number) {
            return one(number) ? now.walkers.get(number) : null;
        }
        return shelves[shelf];
    }

    int taken(int shelf, int as) {
        if (!in(shelf, 0, 3) || !in(as, 0, 5) && !in(as, 10, 13)) {
            return BAD;
        }
        Object thing = thing(shelf);
        if (thing == null) {
            return -11;
        }
        if (thing instanceof Walker w) {
            return as <= 5 && isA(w, as) ? w.number : -13;
        }
        return as >= 10 && sortOf(thing) == as - 10 ? size(thing) : -13;
    }

    int act(int shelf, int act, int x) {
        trace = new ArrayList<>();
        if (!in(shelf, 0, 3) || !in(act, 0, 3) || !(thing(shelf) instanceof Walker)) {
            return 0;
        }
        Walker w = (Walker) thing(shelf);
        w.trace = trace;
        try {
            return act == 0 ? w.leans(x) : act == 1 ? w.sways(x) : act == 2 ? w.parts(x) : w.treads(x);
        } catch (Parted parted) {
            return -15;
        }
    }

    int trace(int i) {
        return in(i, 0, many(6) - 1) ? trace.get(i) : NONE;
    }

    int many(int what) {
        int facts = 0;
        for (boolean so : now.facts) {
            facts += so ? 1 : 0;
        }
        int[] all = {now.walkers.size(), now.across(), now.fallen(), facts, rows.size(), tape.length(),
            Math.min(30, trace.size())};
        return in(what, 0, 6) ? all[what] : BAD;
    }

    int keep() {
        kept = now.copy();
        return 1;
    }

    int again() {
        if (kept == null) {
            return NONE;
        }
        now = kept.copy();
        return now.walkers.size();
    }
}
