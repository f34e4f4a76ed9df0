import java.lang.reflect.InvocationTargetException;
import java.lang.reflect.Method;
import java.nio.file.Files;
import java.nio.file.Path;
import java.util.HashSet;
import java.util.List;
import java.util.Set;
import java.util.regex.Matcher;
import java.util.regex.Pattern;

/** Makes the calls of README.md in their order: each must answer what stands behind it there. */
public final class ReadmeTest {
    private static final Pattern CALL = Pattern.compile("x\\.(\\w+)\\((.*)\\);\\s+// (true|false|-?\\d+)(:.*)?");

    public static void main(String[] args) throws Exception {
        String readme = Files.readString(Path.of("README.md"));
        ThirdComer x = null;
        int calls = 0;
        for (String line : examples(readme)) {
            if (line.equals("ThirdComer x = new ThirdComer();")) {
                x = new ThirdComer();
                continue;
            }
            Matcher call = CALL.matcher(line);
            boolean clear = x != null && call.matches();
            Check.yes("a call with its answer: " + line, clear);
            if (clear) {
                answer(x, line, call.group(1), call.group(2), call.group(3));
                calls++;
            }
        }
        Check.yes("there are examples", calls > 20);
        namesEachCall(readme);
        Check.finish();
    }

    private static List<String> examples(String readme) {
        List<String> lines = new java.util.ArrayList<>();
        boolean inside = false;
        for (String line : readme.split("\n")) {
            if (line.startsWith("```")) {
                inside = line.equals("```java");
            } else if (inside && !line.isBlank()) {
                lines.add(line);
            }
        }
        return lines;
    }

    private static void answer(ThirdComer x, String line, String name, String numbers, String want) throws Exception {
        String[] said = numbers.isBlank() ? new String[0] : numbers.split(",\\s*");
        for (Method method : ThirdComer.class.getMethods()) {
            if (method.getName().equals(name) && method.getParameterCount() == said.length) {
                Object[] given = new Object[said.length];
                for (int i = 0; i < said.length; i++) {
                    given[i] = number(said[i], method.getParameterTypes()[i]);
                }
                try {
                    String got = String.valueOf(method.invoke(x, given));
                    Check.yes(line + " (it answered " + got + ")", got.equals(want));
                } catch (InvocationTargetException e) {
                    Check.yes(line + " (it threw " + e.getCause() + ")", false);
                }
                return;
            }
        }
        Check.yes("a call of the face: " + line, false);
    }

    /** A number as it is written in Java, in the type that the call wants. */
    private static Object number(String said, Class<?> type) {
        long number = said.equals("ThirdComer.NONE") ? ThirdComer.NONE
            : Long.decode(said.endsWith("L") ? said.substring(0, said.length() - 1) : said);
        return type == long.class ? (Object) number : (Object) (int) number;
    }

    /** A person who reads it must find every call of the face. */
    private static void namesEachCall(String readme) {
        Set<String> named = new HashSet<>();
        Matcher name = Pattern.compile("`(\\w+)(\\(\\d\\))?`").matcher(readme);
        while (name.find()) {
            named.add(name.group(1));
        }
        for (Method method : ThirdComer.class.getDeclaredMethods()) {
            if (java.lang.reflect.Modifier.isPublic(method.getModifiers())) {
                Check.yes("README.md names " + method.getName(), named.contains(method.getName()));
            }
        }
    }
}
