import java.lang.reflect.Constructor;
import java.lang.reflect.Field;
import java.lang.reflect.Method;
import java.lang.reflect.Modifier;
import java.util.Set;
import java.util.TreeSet;

/** The public face as the document has it, and the rules of LANGUAGE.md that can be seen from outside. */
public final class FaceTest {
    private static final String[] FACE = {
        "int feed int int int int int", "boolean end int", "int fault int", "int text int", "int village int int",
        "int thing int int int", "int sort int int int", "int of int int", "boolean way int int",
        "boolean start int int int long", "int minutes int", "int who int int", "int about int",
        "int odds int int int", "int law int int", "int which int", "int quiet int", "int pay int int int",
        "int price int int", "int strangers int int", "boolean row int int int int int int", "boolean chance int int",
        "int taken int", "long value int", "int best", "int rest int", "int found int int", "boolean tell int int",
        "boolean came int int", "int told int int", "int ill", "int settle", "boolean between int",
        "int round int int", "int ends int int", "int both int int int", "int kin int int int", "int seen int",
        "int gains int int", "int better int int", "int agree int", "int wayOf int", "int mean", "long gone int",
        "int like int", "int swap int int", "int crowd", "int free int", "int image", "int back", "int count int",
    };

    public static void main(String[] args) {
        methods();
        constantsAndConstructor();
        classesInside();
        Check.finish();
    }

    private static String said(Method method) {
        StringBuilder text = new StringBuilder(method.getReturnType().getName()).append(' ').append(method.getName());
        for (Class<?> type : method.getParameterTypes()) {
            text.append(' ').append(type.getName());
        }
        return text.toString();
    }

    private static void methods() {
        Set<String> due = new TreeSet<>(Set.of(FACE));
        Set<String> names = new TreeSet<>();
        Set<String> got = new TreeSet<>();
        for (Method method : ThirdComer.class.getDeclaredMethods()) {
            if (Modifier.isPublic(method.getModifiers()) && !Modifier.isStatic(method.getModifiers())) {
                got.add(said(method));
                names.add(method.getName());
            }
        }
        Check.yes("the methods of the face: " + got, due.equals(got));
        Check.due("how many", 51, names.size());
        for (Method method : ThirdComer.class.getDeclaredMethods()) {
            boolean open = Modifier.isPublic(method.getModifiers());
            Check.yes("private or of the face: " + method, open || Modifier.isPrivate(method.getModifiers()));
            Check.yes("no name of the face twice: " + method, open || !names.contains(method.getName()));
        }
        for (Class<?> inside : ThirdComer.class.getDeclaredClasses()) {
            for (Method method : inside.getDeclaredMethods()) {
                Check.no("no name of the face inside: " + method, names.contains(method.getName()));
                Check.yes("seven parameters at most: " + method, method.getParameterCount() <= 7);
            }
        }
    }

    private static void constantsAndConstructor() {
        Check.due("NONE", -1, ThirdComer.NONE);
        Check.due("HIDDEN", -1000000, ThirdComer.HIDDEN);
        Check.yes("final", Modifier.isFinal(ThirdComer.class.getModifiers()));
        Check.yes("public", Modifier.isPublic(ThirdComer.class.getModifiers()));
        for (Field field : ThirdComer.class.getDeclaredFields()) {
            boolean constant = field.getName().equals("NONE") || field.getName().equals("HIDDEN");
            Check.yes("private or of the face: " + field,
                constant ? Modifier.isPublic(field.getModifiers()) : Modifier.isPrivate(field.getModifiers()));
            Check.yes("static is final: " + field,
                !Modifier.isStatic(field.getModifiers()) || Modifier.isFinal(field.getModifiers()));
        }
        Constructor<?>[] constructors = ThirdComer.class.getDeclaredConstructors();
        Check.due("one constructor", 1, constructors.length);
        Check.due("without parameters", 0, constructors[0].getParameterCount());
        Check.yes("public", Modifier.isPublic(constructors[0].getModifiers()));
    }

    private static void classesInside() {
        Class<?>[] inside = ThirdComer.class.getDeclaredClasses();
        Check.yes("twelve classes at most", inside.length + 1 <= 12);
        for (Class<?> one : inside) {
            Check.yes("static: " + one, Modifier.isStatic(one.getModifiers()));
            Check.no("not public: " + one, Modifier.isPublic(one.getModifiers()));
            int fields = 0;
            for (Field field : one.getDeclaredFields()) {
                fields += Modifier.isStatic(field.getModifiers()) ? 0 : 1;
                Check.yes("static is final: " + field,
                    !Modifier.isStatic(field.getModifiers()) || Modifier.isFinal(field.getModifiers()));
            }
            Check.yes("twenty fields at most: " + one, fields <= 20);
        }
    }
}
