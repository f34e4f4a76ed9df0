import java.lang.reflect.InvocationTargetException;
import java.lang.reflect.Method;
import java.lang.reflect.Modifier;
import java.util.ArrayList;
import java.util.Comparator;
import java.util.List;
import java.util.NoSuchElementException;
import java.util.Random;

/**
 * Every call with numbers of every size, in objects from new to full: none may throw but village and value, which
 * throw what the document names.
 */
public final class AnyNumbersTest {
    private static final int[] NUMBERS = {
        Integer.MIN_VALUE, Integer.MIN_VALUE + 1, -1000000, -256, -61, -2, -1, 0, 1, 2, 3, 4, 5, 6, 7, 8, 9, 10, 11, 12, 13,
        19, 20, 21, 39, 40, 41, 59, 60, 61, 62, 99, 100, 159, 160, 161, 999, 1000, 65536, 1000000, 1 << 30,
        Integer.MAX_VALUE - 1, Integer.MAX_VALUE,
    };
    private static final long[] SEEDS = {Long.MIN_VALUE, -1, 0, 1, 1L << 33, Long.MAX_VALUE};
    /** Together with those that fill an object no more than the 512 that are promised. */
    private static final int CALLS = 420;

    private final Random random;
    private final List<Method> face = new ArrayList<>();

    private AnyNumbersTest(long seed) {
        random = new Random(seed);
        for (Method method : ThirdComer.class.getDeclaredMethods()) {
            if (Modifier.isPublic(method.getModifiers())) {
                face.add(method);
            }
        }
        // The order of reflection is free, and the runs must be the same each time.
        face.sort(Comparator.comparing(Method::getName));
    }

    public static void main(String[] args) throws Exception {
        for (int seed = 0; seed < 120; seed++) {
            AnyNumbersTest test = new AnyNumbersTest(seed);
            test.run(new ThirdComer());
            test.run(test.some());
            test.run(test.full());
        }
        Check.finish();
    }

    private ThirdComer some() {
        ThirdComer x = Check.with("tn2w50f3;sm3c2d1", "y:10");
        x.start(0, 0, 1, random.nextLong());
        x.tell(0, 0);
        x.row(2, 1, 10, 0, 1, 1);
        return x;
    }

    /** All the villages, ways and people there may be, and a tape to its last byte. */
    private ThirdComer full() {
        String most = "tp3w999f99;tn9;tn1p2;tn2;sm9d0c99;sm7d9;sk0;s;sc1;sd0";
        String deep = "y:!!!!!(t<1)&!(h=g|n>r)?[[[[[[o]]]]]]*9999*9999-v/[t-t];y:c";
        ThirdComer x = Check.with(most, "t;s", "tn1;sm2d0k0", most, deep, "y:0-9999*9999", "y:3", "y:t", "y:10", deep);
        for (int i = 0; i < 160; i += 20) {
            Check.feed(x, "yyyyyyyyyyyyyyyyyyyy");
        }
        x.start(0, random.nextInt(4), random.nextInt(2), random.nextLong());
        x.tell(0, 3);
        for (int person = 0; person < 20; person++) {
            x.came(person, random.nextInt(62) - 1);
        }
        x.row(9, 9, 999, 99, 99, random.nextBoolean() ? 12 : 3);
        return x;
    }

    private void run(ThirdComer x) throws Exception {
        for (int call = 0; call < CALLS; call++) {
            Method method = face.get(random.nextInt(face.size()));
            Object[] given = new Object[method.getParameterCount()];
            // Where each number is picked from all, a call of many numbers is hardly ever right.
            boolean near = random.nextBoolean();
            for (int i = 0; i < given.length; i++) {
                given[i] = method.getParameterTypes()[i] == long.class ? (Object) SEEDS[random.nextInt(SEEDS.length)]
                    : (Object) (near ? random.nextInt(5) - 1 : NUMBERS[random.nextInt(NUMBERS.length)]);
            }
            ask(x, method, given);
        }
    }

    private static void ask(ThirdComer x, Method method, Object[] given) throws Exception {
        String said = method.getName() + java.util.Arrays.toString(given);
        boolean mayThrow = method.getName().equals("village") || method.getName().equals("value");
        try {
            method.invoke(x, given);
            Check.yes(said, true);
        } catch (InvocationTargetException e) {
            boolean due = mayThrow && e.getCause().getClass() == NoSuchElementException.class;
            Check.yes(said + " threw " + e.getCause(), due);
        }
    }
}
