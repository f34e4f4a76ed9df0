import java.lang.reflect.InvocationTargetException;
import java.lang.reflect.Method;
import java.util.NoSuchElementException;
import java.util.Random;

/** Random runs of calls, put both to ThirdComer and to the model in help/Model.java: every answer must be the same. */
public final class ModelTest {
    /** A call and what its numbers mean: see number(..). A call that stands twice is made twice as often. */
    private static final String[] CALLS = {
        "end b", "fault x", "text x", "village v w", "thing v t w", "sort v s w", "of v p", "way s y", "way s y",
        "start v t l L", "start v t l L", "minutes i", "minutes i", "who p w", "who p w", "who p w", "about w",
        "about w", "odds p n l", "law h n", "which n", "quiet n", "pay p p n", "price p n", "strangers s n",
        "row a h W F F M", "row a h W F F M", "chance r c", "chance r c", "chance r c", "chance r c", "taken r",
        "value r", "best", "rest k", "found k f", "tell v t", "came p m", "came p m", "came p m", "came p m",
        "told p w", "told p w", "ill", "settle", "between q", "round p w", "round p w", "ends m n", "ends i n",
        "both p p n", "kin p p n", "seen n", "gains s n", "better s n", "agree n", "wayOf s", "mean", "gone r",
        "like r", "swap p p", "crowd", "free p", "image", "back", "count w",
    };

    /** Ways by which not all go at once. */
    private static final String[] USUAL_WAYS = {
        "y:1", "y:2", "y:t>3?5;y:1", "y:h+1>n?0;y:3", "y:g+h<n-1?4;y:1", "y:10-r*2", "y:v/20", "y:o<3?6;y:1",
        "y:g>0|h>0?7;y:t/3", "y:[c+1]*t/2",
    };

    private final Random random;
    private final ThirdComer x = new ThirdComer();
    private final Model model = new Model();
    private final StringBuilder run = new StringBuilder();

    private ModelTest(long seed) {
        random = new Random(seed);
    }

    public static void main(String[] args) throws Exception {
        for (int seed = 0; seed < 250; seed++) {
            new ModelTest(seed).runOnce();
        }
        for (int seed = 0; seed < 4000; seed++) {
            new ModelTest(100000 + seed).faults();
        }
        Check.finish();
    }

    private void runOnce() throws Exception {
        for (int i = 0; i < 150; i++) {
            if (i % 25 == 0 || i > 9 && i < 13) {
                takeText(i == 0 || random.nextInt(3) == 0 ? village() : way());
            }
            if (i % 30 == 15) {
                put("start", 0, 0, random.nextInt(2), random.nextLong());
                put("tell", 0, random.nextInt(2));
            }
            String[] call = CALLS[random.nextInt(CALLS.length)].split(" ");
            Object[] numbers = new Object[call.length - 1];
            for (int k = 0; k < numbers.length; k++) {
                numbers[k] = number(call[k + 1].charAt(0), call[0]);
            }
            put(call[0], numbers);
        }
    }

    private void takeText(String text) throws Exception {
        put("end", 0);
        feed(random.nextInt(8) == 0 ? broken(text) : text);
        put("text", text.startsWith("y") ? 1 : 0);
    }

    /** Broken texts of both kinds, and their faults. */
    private void faults() throws Exception {
        String text = random.nextBoolean() ? village() : way();
        feed(broken(random.nextInt(3) == 0 ? broken(text) : text));
        put("fault", 0);
        put("fault", 1);
        put("end", random.nextInt(40));
        put("fault", text.startsWith("y") ? 1 : 0);
    }

    private Object number(char kind, String call) {
        boolean wild = random.nextInt(25) == 0;
        switch (kind) {
            case 'b': return random.nextInt(170) - 3;
            case 'x': return random.nextInt(4) - 1;
            case 'v': return wild ? random.nextInt(7) - 1 : random.nextInt(2);
            case 't': return random.nextInt(wild ? 6 : 2) - (wild ? 1 : 0);
            case 's': return random.nextInt(wild ? 9 : 3) - (wild ? 1 : 0);
            case 'p': return wild ? random.nextInt(23) - 1 : random.nextInt(Math.max(1, people(call)));
            case 'w': return wild ? random.nextInt(11) - 1 : random.nextInt(whats(call));
            case 'y': return random.nextInt(wild ? 8 : 4) - (wild ? 1 : 0);
            case 'l': return random.nextInt(wild ? 4 : 2) - (wild ? 1 : 0);
            case 'L': return random.nextLong();
            case 'i': return wild ? random.nextInt(64) - 1 : 1 + random.nextInt(5);
            case 'n': return wild ? new int[] {-1, 0, 40, 41, 1000}[random.nextInt(5)] : 1 + random.nextInt(4);
            case 'h': return wild ? random.nextInt(12) - 1 : 1 + random.nextInt(4);
            case 'a': return wild ? random.nextInt(12) : 2 + random.nextInt(6);
            case 'W': return wild ? random.nextInt(1100) - 50 : random.nextInt(1000);
            case 'F': return wild ? random.nextInt(110) - 5 : random.nextInt(30);
            case 'M': return wild ? random.nextInt(15) : 1 + random.nextInt(3);
            case 'r': return random.nextInt(wild ? 15 : 4) - 1;
            case 'c': return wild ? random.nextInt(14) - 1 : random.nextInt(11);
            case 'k': return random.nextInt(wild ? 104 : 40) - (wild ? 2 : 0);
            case 'f': return random.nextInt(5) - 1 - (wild ? 1 : 0);
            case 'm': return wild ? random.nextInt(64) - 2 : random.nextInt(7) - 1;
            case 'q': return random.nextInt(12) - 1;
            default: throw new IllegalStateException(call);
        }
    }

    /** How many there are to be asked about. */
    private int people(String call) {
        return model.count("came told round swap free".contains(call) ? 6 : 5);
    }

    private static int whats(String call) {
        switch (call) {
            case "who": return 6;
            case "about": return 8;
            case "told": return 5;
            case "count": return 7;
            case "thing": case "sort": return 4;
            default: return 3;
        }
    }

    // ---- texts

    private void feed(String text) throws Exception {
        run.append(" {").append(text).append("}");
        for (int i = 0; i < text.length(); i += 20) {
            put("feed", Check.word(text, i), Check.word(text, i + 4), Check.word(text, i + 8), Check.word(text, i + 12),
                Check.word(text, i + 16));
        }
    }

    private String blank() {
        return random.nextInt(12) == 0 ? " " : "";
    }

    private String items(String letters, int[] least, int[] most) {
        StringBuilder text = new StringBuilder();
        int from = random.nextInt(4);
        for (int i = 0; i < 4; i++) {
            int which = (from + i) % 4;
            if (random.nextInt(3) > 0) {
                int number = least[which] + random.nextInt(most[which] - least[which] + 1);
                String digits = random.nextInt(9) == 0 && number < 100 ? "0" + number : "" + number;
                text.append(letters.charAt(which)).append(blank()).append(digits).append(blank());
            }
        }
        return text.toString();
    }

    private String village() {
        StringBuilder text = new StringBuilder(blank());
        int clauses = random.nextInt(10) == 0 ? 10 + random.nextInt(2) : 2 + random.nextInt(5);
        for (int i = 0; i < clauses; i++) {
            text.append(i == 0 ? "" : ";").append(blank());
            if (i == 0 || i > 1 && random.nextInt(3) == 0) {
                text.append("t").append(blank());
                text.append(items("npwf", new int[] {1, 1, 0, 0}, new int[] {4, 3, 300, 20}));
            } else {
                text.append("s").append(blank());
                text.append(items("mdck", new int[] {1, 0, 0, 0}, new int[] {5, 3, 9, 1}));
            }
        }
        return text.toString();
    }

    private String atom(int depth) {
        int kind = random.nextInt(depth > 0 ? 8 : 6);
        if (kind < 2) {
            return blank() + random.nextInt(new int[] {3, 12, 100, 10000}[random.nextInt(4)]) + blank();
        }
        return kind < 6 ? blank() + "thgnrovc".charAt(random.nextInt(8)) : "[" + sum(depth - 1) + blank() + "]";
    }

    private String sum(int depth) {
        StringBuilder text = new StringBuilder(atom(depth));
        while (random.nextInt(3) == 0) {
            text.append(blank()).append("+-*/".charAt(random.nextInt(4))).append(atom(depth));
        }
        return text.toString();
    }

    private String unit(int depth) {
        int kind = random.nextInt(depth > 0 ? 5 : 3);
        if (kind < 3) {
            return sum(depth) + blank() + "=<>".charAt(random.nextInt(3)) + sum(depth);
        }
        return kind == 3 ? blank() + "!" + unit(depth - 1) : "(" + condition(depth - 1) + blank() + ")";
    }

    private String condition(int depth) {
        StringBuilder text = new StringBuilder(unit(depth));
        while (random.nextInt(3) == 0) {
            text.append(blank()).append("&|".charAt(random.nextInt(2))).append(unit(depth));
        }
        return text.toString();
    }

    private String way() {
        if (random.nextInt(3) == 0) {
            return USUAL_WAYS[random.nextInt(USUAL_WAYS.length)];
        }
        StringBuilder text = new StringBuilder();
        int clauses = 1 + random.nextInt(3);
        int depth = random.nextInt(random.nextInt(5) == 0 ? 9 : 4);
        for (int i = 0; i < clauses; i++) {
            text.append(i == 0 ? "" : ";").append("y").append(blank()).append(":");
            if (random.nextInt(5) > 0) {
                text.append(condition(depth)).append("?");
            }
            text.append(sum(depth));
        }
        return text.toString();
    }

    private String broken(String text) {
        StringBuilder changed = new StringBuilder(text);
        int at = random.nextInt(text.length() + 1);
        String signs = "ts;npwfmdcky:?|&!()[]=<>+-*/0123456789 thgrovx" + (char) 200;
        String sign = "" + signs.charAt(random.nextInt(signs.length()));
        switch (random.nextInt(4)) {
            case 0: changed.insert(at, sign); break;
            case 1: changed.setLength(at); break;
            case 2: changed.replace(at, Math.min(text.length(), at + 1), sign); break;
            default: changed.delete(at, Math.min(text.length(), at + 1)); break;
        }
        return changed.toString();
    }

    // ---- calls

    private static Object ask(Object object, String name, Object[] numbers) throws Exception {
        for (Method method : object.getClass().getDeclaredMethods()) {
            if (method.getName().equals(name) && method.getParameterCount() == numbers.length
                    && !java.lang.reflect.Modifier.isPrivate(method.getModifiers())) {
                method.setAccessible(true);
                try {
                    Object answer = method.invoke(object, numbers);
                    return answer instanceof Boolean ? ((Boolean) answer ? 1L : 0L) : ((Number) answer).longValue();
                } catch (InvocationTargetException e) {
                    if (e.getCause() instanceof NoSuchElementException) {
                        return "NoSuchElementException";
                    }
                    throw e;
                }
            }
        }
        throw new IllegalStateException(name);
    }

    private void put(String name, Object... numbers) throws Exception {
        run.append(' ').append(name).append(java.util.Arrays.toString(numbers));
        Object want = ask(model, name, numbers);
        Object got = ask(x, name, numbers);
        if (!want.equals(got)) {
            System.out.println("by the model it is " + want + ", answered was " + got + ":" + run);
        }
        Check.due(name, 1, want.equals(got) ? 1 : 0);
    }
}
