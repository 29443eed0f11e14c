import java.lang.reflect.Array;
import java.lang.reflect.Field;
import java.lang.reflect.Modifier;
import java.util.IdentityHashMap;
import java.util.Map;
import java.util.Set;

/**
 * Says to the changed class of BreaksTest which promise is broken now, and how. It is loaded anew for each break, so
 * its fields hold for one break alone.
 */
final class Broken {
    enum Way {
        NONE, ANSWERS_ONE_MORE, REFUSES_BY_ANOTHER_NUMBER, DOES_NOTHING, CHANGES_MORE, CHANGES_WHEN_REFUSED,
        IS_NOT_NEW, IS_KEPT_WHEN_NEW
    }

    static final int NO_NUMBER = 0;

    static String call = "";
    static Way way = Way.NONE;
    static int refusal = NO_NUMBER;
    static Set<Integer> refusals = Set.of();

    private Broken() {
    }

    /** For BreaksTest, which reaches this class from another loader: only the platform's own types can cross. */
    static void set(String brokenCall, String brokenWay, int brokenRefusal, Set<Integer> allRefusals) {
        call = brokenCall;
        way = Way.valueOf(brokenWay);
        refusal = brokenRefusal;
        refusals = allRefusals;
    }

    static boolean is(String name, Way asked) {
        return way == asked && call.equals(name);
    }

    static boolean changesMore(String name, long answer) {
        return is(name, Way.CHANGES_MORE) && !isRefusal(answer)
            || is(name, Way.CHANGES_WHEN_REFUSED) && isRefusal(answer);
    }

    static long answer(String name, long answer) {
        if (is(name, Way.ANSWERS_ONE_MORE) && !isRefusal(answer)) {
            return answer + 1;
        }
        if (is(name, Way.REFUSES_BY_ANOTHER_NUMBER) && isRefusal(answer)) {
            return refusal == NO_NUMBER || refusal == answer ? answer - 1000 : answer;
        }
        return answer;
    }

    /** A FAULT is told by -100 and less, so circus() has no few numbers that could be listed. */
    private static boolean isRefusal(long answer) {
        return call.equals("circus") ? answer <= -100 : answer < 0 && refusals.contains((int) answer);
    }

    /** On a copy a call answers as it must, but does nothing to the object itself. */
    static TruthRope on(String name, TruthRope rope) {
        return is(name, Way.DOES_NOTHING) ? (TruthRope) copy(rope, new IdentityHashMap<>()) : rope;
    }

    private static Object copy(Object of, Map<Object, Object> copies) {
        if (of == null || of.getClass().getClassLoader() == null && !of.getClass().isArray()) {
            return of;
        }
        if (copies.containsKey(of)) {
            return copies.get(of);
        }
        return of.getClass().isArray() ? copyArray(of, copies) : copyFields(of, copies);
    }

    private static Object copyArray(Object of, Map<Object, Object> copies) {
        int length = Array.getLength(of);
        Object made = Array.newInstance(of.getClass().getComponentType(), length);
        copies.put(of, made);
        for (int i = 0; i < length; i++) {
            Array.set(made, i, copy(Array.get(of, i), copies));
        }
        return made;
    }

    private static Object copyFields(Object of, Map<Object, Object> copies) {
        try {
            Object made = made(of);
            copies.put(of, made);
            for (Field field : of.getClass().getDeclaredFields()) {
                if (!Modifier.isStatic(field.getModifiers())) {
                    field.setAccessible(true);
                    field.set(made, copy(field.get(of), copies));
                }
            }
            return made;
        } catch (ReflectiveOperationException e) {
            throw new IllegalStateException(e);
        }
    }

    /** Any numbers do for the constructor: all fields are set behind it. */
    private static Object made(Object of) throws ReflectiveOperationException {
        java.lang.reflect.Constructor<?> constructor = of.getClass().getDeclaredConstructors()[0];
        constructor.setAccessible(true);
        Object[] numbers = new Object[constructor.getParameterCount()];
        java.util.Arrays.fill(numbers, 0);
        return constructor.newInstance(numbers);
    }
}
