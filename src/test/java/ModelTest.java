import java.lang.reflect.Method;
import java.lang.reflect.Modifier;
import java.nio.charset.StandardCharsets;
import java.util.ArrayList;
import java.util.Arrays;
import java.util.Comparator;
import java.util.List;
import java.util.Random;

/** All promises: runs of calls drawn by fixed seeds, each answer held to what PlainRope answers. */
public final class ModelTest {
    private static final int RUNS = 600;
    private static final int CALLS = 500;
    private static final String[] WORDS = {
        "walker", "clown", "child", "jester", "saint", "thinker", "weight", "at", "says", "denies", "fact",
        "plank", "but", "wit", "doubt", ";", " ", "0", "7", "9", "20", "99", "255", "1000", "Q", "x",
    };

    /** What is dear to try, and what would leave most runs without walkers. */
    private static final List<String> SELDOM = List.of("sayFor", "circus", "feed", "again", "steps");
    private static final List<String> OF_ONE = List.of("of0", "does0", "mind0", "say0", "stand0", "reaches0", "over0",
        "falls0", "sayFor0", "kindFor0", "turnedFor0", "loadFor0", "both0", "both1", "fits1", "prove0", "judge0", "minds2");

    private final Random random;
    private final int run;
    private final TruthRope rope = new TruthRope();
    private final PlainRope plain = new PlainRope();
    private int calls = 0;
    private boolean apart = false;

    private ModelTest(int run) {
        this.run = run;
        this.random = new Random(run);
    }

    public static void main(String[] args) throws Exception {
        List<Method[]> pairs = pairs();
        int from = args.length > 1 ? Integer.parseInt(args[1]) : 0;
        int runs = args.length > 0 ? Integer.parseInt(args[0]) : RUNS;
        for (int run = from; run < from + runs; run++) {
            new ModelTest(run).go(pairs);
        }
        Check.finish();
    }

    private static List<Method[]> pairs() throws Exception {
        List<Method[]> pairs = new ArrayList<>();
        for (Method method : TruthRope.class.getDeclaredMethods()) {
            if (Modifier.isPublic(method.getModifiers())) {
                pairs.add(new Method[] {method,
                    PlainRope.class.getDeclaredMethod(method.getName(), method.getParameterTypes())});
            }
        }
        pairs.sort(Comparator.comparing(pair -> pair[0].getName()));
        return pairs;
    }

    private void go(List<Method[]> pairs) throws Exception {
        if (run % 3 != 0) {
            tell(goodText());
        }
        for (int i = 0; i < 400 && calls < CALLS && !apart; i++) {
            if (random.nextInt(60) == 0) {
                tell(random.nextInt(3) == 0 ? goodText() : badText());
            } else {
                Method[] pair = pairs.get(random.nextInt(pairs.size()));
                if (!SELDOM.contains(pair[0].getName()) || random.nextInt(10) == 0) {
                    both(pair, numbersFor(pair[0]));
                }
            }
        }
    }

    private void both(Method[] pair, Object... numbers) throws Exception {
        calls++;
        long got = ((Number) pair[0].invoke(rope, numbers)).longValue();
        long want = ((Number) pair[1].invoke(plain, numbers)).longValue();
        apart |= got != want;
        Check.due("run " + run + ", call " + calls + ": " + pair[0].getName() + Arrays.toString(numbers), got, want);
    }

    private void tell(String text) throws Exception {
        Method[] feed = pair("feed", long.class, int.class);
        byte[] bytes = text.getBytes(StandardCharsets.ISO_8859_1);
        for (int i = 0; i < bytes.length; i += 8) {
            int n = Math.min(8, bytes.length - i);
            long eight = random.nextLong() << 8 * (n - 1) << 8;
            for (int j = 0; j < n; j++) {
                eight |= (bytes[i + j] & 255L) << 8 * j;
            }
            both(feed, eight, n);
        }
        both(pair("circus"));
    }

    private static Method[] pair(String name, Class<?>... types) throws Exception {
        return new Method[] {TruthRope.class.getDeclaredMethod(name, types), PlainRope.class.getDeclaredMethod(name, types)};
    }

    private String goodText() {
        StringBuilder text = new StringBuilder();
        int walkers = random.nextInt(6);
        for (int i = 0; i < walkers; i++) {
            int yes = random.nextInt(256) & random.nextInt(256);
            text.append(PlainRope.KIND_NAMES[random.nextInt(6)]);
            option(text, "weight", random.nextInt(random.nextBoolean() ? 100 : 25));
            option(text, "at", random.nextInt(random.nextBoolean() ? 21 : 6));
            if (random.nextBoolean()) {
                text.append(" says ").append(yes);
                option(text, "denies", random.nextInt(256) & ~yes);
            }
            text.append(';');
        }
        for (int i = random.nextInt(4); i > 0; i--) {
            text.append("fact ").append(random.nextInt(8)).append(" ;");
        }
        if (random.nextBoolean()) {
            int law = random.nextInt(4);
            text.append(PlainRope.LAW_NAMES[law]).append(random.nextInt(PlainRope.LAW_MOST[law] + 1)).append("; ");
        }
        return text.length() > 200 ? "fact 1;" : text.toString();
    }

    private void option(StringBuilder text, String name, int number) {
        if (random.nextInt(3) > 0) {
            text.append(' ').append(name).append(random.nextBoolean() ? " " : "").append(number);
        }
    }

    private String badText() {
        StringBuilder text = new StringBuilder(goodText());
        for (int i = 1 + random.nextInt(3); i > 0; i--) {
            int place = random.nextInt(text.length() + 1);
            int way = random.nextInt(4);
            if (way == 0 && place < text.length()) {
                text.deleteCharAt(place);
            } else if (way == 1) {
                text.insert(place, (char) random.nextInt(256));
            } else if (way == 2) {
                text.setLength(place);
            } else {
                text.insert(place, WORDS[random.nextInt(WORDS.length)]);
            }
        }
        return text.length() > 200 ? ";" : text.toString();
    }

    private Object[] numbersFor(Method method) {
        Class<?>[] types = method.getParameterTypes();
        Object[] numbers = new Object[types.length];
        for (int i = 0; i < types.length; i++) {
            numbers[i] = types[i] == long.class ? (Object) random.nextLong() : Integer.valueOf(number(method.getName(), i));
        }
        if (method.getName().equals("say") && random.nextInt(8) > 0) {
            numbers[2] = (Integer) numbers[2] & ~(Integer) numbers[1];
        }
        return numbers;
    }

    private int number(String call, int i) {
        int odd = random.nextInt(40);
        if (odd == 0) {
            return random.nextInt();
        }
        if (odd == 1) {
            return -1 - random.nextInt(3);
        }
        if (OF_ONE.contains(call + i)) {
            return random.nextInt(Math.max(1, plain.now.walkers.size()));
        }
        switch (call + i) {
            case "steps0": return random.nextInt(8) == 0 ? random.nextInt(63) : 1 + random.nextInt(2);
            case "say1": case "say2": return random.nextInt(257);
            case "seed0": case "act2": case "alterRow2": return random.nextInt(4) == 0 ? random.nextInt() : random.nextInt(30);
            case "put2": return random.nextInt(3) == 0 ? -1 : random.nextInt(4) == 0 ? random.nextInt(400) - 200 : random.nextInt(21);
            case "set1": return random.nextInt(11);
            case "stand1": return random.nextInt(22);
            case "walker1": case "mind2": return random.nextInt(random.nextBoolean() ? 102 : 20);
            case "reaches1": return random.nextInt(63);
            case "luck0": case "sayFor1": case "kindFor1": case "turnedFor1": case "loadFor1": return random.nextInt(32);
            case "hope0": return random.nextInt(102);
            case "odds0": case "odds1": return random.nextInt(10);
            case "prove1": return random.nextInt(12);
            case "sheet1": return random.nextInt(6) - 1;
            case "sheet2": return random.nextInt(4) == 0 ? random.nextInt(43) : random.nextInt(6);
            case "taken1": return random.nextInt(15);
            case "trace0": case "row0": case "alterRow0": return random.nextInt(11);
            case "fact1": return random.nextInt(2);
            case "fact0": return random.nextInt(9);
            case "shelf1": return random.nextInt(8) == 0 ? random.nextInt(4) : 0;
            case "shelf0": case "taken0": case "act0": return random.nextInt(2);
            case "sheet0": case "put0": case "item0": case "fits0": case "minds0": return random.nextInt(2);
            default: return random.nextInt(random.nextInt(4) == 0 ? 9 : 4);
        }
    }
}
