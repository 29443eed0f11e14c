import java.lang.reflect.Constructor;
import java.lang.reflect.Field;
import java.lang.reflect.Method;
import java.lang.reflect.Modifier;
import java.nio.file.Files;
import java.nio.file.Path;
import java.util.ArrayList;
import java.util.List;
import java.util.TreeSet;

/** The public face: just what the document's face has, each call for any numbers in any state, and no throw. */
public final class FaceTest {
    private static final int[] NUMBERS = {
        0, 1, 2, 3, 4, 5, 6, 7, 8, 9, 10, 13, 14, 20, 30, 31, 40, 41, 60, 61, 99, 100, 255, 256,
        -1, -2, -9, Integer.MIN_VALUE, Integer.MIN_VALUE + 1, Integer.MAX_VALUE, Integer.MAX_VALUE - 1,
    };

    public static void main(String[] args) throws Exception {
        constants();
        members();
        sameAsTheDocument();
        nothingThrows();
        Check.finish();
    }

    private static void constants() {
        Check.due("BAD", TruthRope.BAD, -1);
        Check.due("FULL", TruthRope.FULL, -2);
        Check.due("NONE", TruthRope.NONE, -3);
    }

    private static void members() {
        Check.that("the class is public and final",
            Modifier.isPublic(TruthRope.class.getModifiers()) && Modifier.isFinal(TruthRope.class.getModifiers()));
        for (Field field : TruthRope.class.getDeclaredFields()) {
            boolean isFace = List.of("BAD", "FULL", "NONE").contains(field.getName());
            Check.that("the field " + field.getName(), Modifier.isPublic(field.getModifiers()) == isFace
                && Modifier.isPrivate(field.getModifiers()) != isFace);
        }
        for (Method method : TruthRope.class.getDeclaredMethods()) {
            Check.that("the method " + method.getName(),
                Modifier.isPublic(method.getModifiers()) != Modifier.isPrivate(method.getModifiers()));
        }
        Constructor<?>[] constructors = TruthRope.class.getDeclaredConstructors();
        Check.due("one constructor", constructors.length, 1);
        Check.that("it is public", Modifier.isPublic(constructors[0].getModifiers()));
        for (Class<?> inside : TruthRope.class.getDeclaredClasses()) {
            Check.that("the class " + inside.getSimpleName(),
                Modifier.isStatic(inside.getModifiers()) && !Modifier.isPublic(inside.getModifiers()));
        }
    }

    private static void sameAsTheDocument() throws Exception {
        TreeSet<String> told = new TreeSet<>();
        boolean inFace = false;
        for (String line : Files.readAllLines(Path.of("../shared/DOC.md"))) {
            if (line.startsWith("public final class")) {
                inFace = true;
            } else if (line.equals("}")) {
                inFace = false;
            } else if (inFace && line.contains("(") && !line.contains("TruthRope(")) {
                told.add(line.trim().replaceAll("^public |;$", "").replaceAll("(int|long) \\w+([,)])", "$1$2"));
            }
        }
        TreeSet<String> here = new TreeSet<>();
        for (Method method : TruthRope.class.getDeclaredMethods()) {
            if (Modifier.isPublic(method.getModifiers())) {
                List<String> types = new ArrayList<>();
                for (Class<?> type : method.getParameterTypes()) {
                    types.add(type.getName());
                }
                here.add(method.getReturnType().getName() + " " + method.getName() + "("
                    + String.join(", ", types) + ")");
            }
        }
        Check.due("how many calls the document has", told.size(), 43);
        if (!told.equals(here)) {
            System.out.println("  told: " + told + "\n  here: " + here);
        }
        Check.that("the calls are those of the document", told.equals(here));
    }

    private static void nothingThrows() throws Exception {
        for (Method method : TruthRope.class.getDeclaredMethods()) {
            if (!Modifier.isPublic(method.getModifiers())) {
                continue;
            }
            Class<?>[] types = method.getParameterTypes();
            int ways = 1;
            for (int i = 0; i < types.length; i++) {
                ways *= NUMBERS.length;
            }
            int stride = ways > 20000 ? 37 : 1;
            TruthRope[] ropes = {new TruthRope(), used()};
            for (int way = 0; way < ways; way += stride) {
                if (way / stride % 400 == 399) {
                    ropes = new TruthRope[] {new TruthRope(), used()};
                }
                for (TruthRope rope : ropes) {
                    Check.that(method.getName() + ", way " + way, ends(method, rope, numbers(types, way)));
                }
            }
        }
    }

    private static boolean ends(Method method, TruthRope rope, Object[] numbers) throws Exception {
        try {
            method.invoke(rope, numbers);
            return true;
        } catch (java.lang.reflect.InvocationTargetException thrown) {
            System.out.println("  " + method.getName() + java.util.Arrays.toString(numbers) + ": " + thrown.getCause());
            return false;
        }
    }

    private static Object[] numbers(Class<?>[] types, int way) {
        Object[] numbers = new Object[types.length];
        int left = way;
        for (int i = 0; i < types.length; i++) {
            int number = NUMBERS[left % NUMBERS.length];
            left /= NUMBERS.length;
            if (types[i] == long.class) {
                numbers[i] = (long) number << 13;
            } else {
                numbers[i] = number;
            }
        }
        return numbers;
    }

    private static TruthRope used() {
        TruthRope x = new TruthRope();
        Check.circus(x, "walker at 2 says 3;clown at 20;child weight 9 at 2 denies 7;jester weight 99 at 3;"
            + "saint weight 1 says 8;thinker at 5;walker;clown;fact 1;");
        x.steps(1);
        x.prove(0, 10);
        for (int i = 0; i < 4; i++) {
            x.sheet(i, i, i == 3 ? 40 : i);
        }
        x.shelf(0, 0, 4);
        x.shelf(1, 1, 3);
        x.shelf(2, 0, 7);
        x.act(0, 3, 9);
        Check.feed(x, "saint;fact 3;");
        x.keep();
        return x;
    }
}
