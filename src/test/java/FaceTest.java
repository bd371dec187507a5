import java.lang.reflect.Constructor;
import java.lang.reflect.Field;
import java.lang.reflect.Method;
import java.lang.reflect.Modifier;
import java.util.ArrayList;
import java.util.Arrays;
import java.util.List;
import java.util.TreeSet;

/** The public face is that of the document, and nothing else can be seen from outside. */
final class FaceTest {
    private static final String OUT = " throws IndexOutOfBoundsException";
    private static final String BAD = " IllegalArgumentException";
    private static final String STATE = " IllegalStateException";
    private static final String NO_SUCH = " NoSuchElementException";

    private static final String[] METHODS = {
        "int spell(int)" + OUT + STATE,
        "int clearSpelled()",
        "int addBox(int int int int int)" + OUT + BAD + STATE,
        "int addLabel(int int int boolean)" + OUT + BAD + STATE,
        "int move(int int int int)" + OUT + BAD + STATE,
        "int resize(int int int int)" + OUT + BAD + STATE,
        "int lay(int int int int)" + OUT + BAD + STATE,
        "int drop(int int)" + OUT + STATE,
        "int back(int)" + OUT + STATE,
        "int on(int int)" + OUT,
        "int branches(int)" + OUT,
        "int below(int)" + OUT,
        "int standsAt(int)" + OUT,
        "int acts()",
        "boolean counts(int)" + OUT,
        "boolean isVoid(int)" + OUT,
        "boolean isThere(int)" + OUT,
        "int number(int int)" + OUT + BAD + NO_SUCH,
        "int numberAnew(int int)" + OUT + BAD + NO_SUCH,
        "boolean isInForce(int)" + OUT,
        "boolean holds(int)" + OUT + NO_SUCH,
        "int broken()",
        "int part(int boolean)" + OUT + NO_SUCH,
        "int ask() throws" + STATE,
        "int make()",
        "int length(int)" + OUT + NO_SUCH,
        "char charAt(int int)" + OUT + NO_SUCH,
        "char charAnew(int int)" + OUT + NO_SUCH,
    };

    private static final String[] CONSTANTS = {
        "NONE=-1", "WIDTH=0", "HEIGHT=1", "TOUCH=2", "ALIGN=3", "OVER=4", "LEVEL=5", "TIE=6",
    };

    public static void main(String[] args) throws IllegalAccessException {
        Checks checks = new Checks();
        checks.same("the class", "public final", Modifier.toString(Sketchlock.class.getModifiers()));
        checks.same("the methods", sorted(Arrays.asList(METHODS)), sorted(seenMethods()));
        checks.same("the constants", sorted(Arrays.asList(CONSTANTS)), sorted(seenConstants()));
        for (Constructor<?> constructor : Sketchlock.class.getDeclaredConstructors()) {
            checks.same("the constructor", "public 0",
                    Modifier.toString(constructor.getModifiers()) + " " + constructor.getParameterCount());
        }
        checks.end("FaceTest");
    }

    private static String sorted(List<String> texts) {
        return String.join("; ", new TreeSet<>(texts));
    }

    private static List<String> seenMethods() {
        List<String> seen = new ArrayList<>();
        for (Method method : Sketchlock.class.getDeclaredMethods()) {
            if (Modifier.isPrivate(method.getModifiers())) {
                continue;
            }
            String mark = Modifier.toString(method.getModifiers()).equals("public") ? "" : "not just public: ";
            String text = mark + method.getReturnType() + " " + method.getName() + "("
                    + names(method.getParameterTypes()) + ")";
            String thrown = names(method.getExceptionTypes());
            seen.add(thrown.isEmpty() ? text : text + " throws " + thrown);
        }
        return seen;
    }

    private static String names(Class<?>[] types) {
        List<String> names = new ArrayList<>();
        for (Class<?> type : types) {
            names.add(type.getSimpleName());
        }
        return String.join(" ", names);
    }

    private static List<String> seenConstants() throws IllegalAccessException {
        List<String> seen = new ArrayList<>();
        for (Field field : Sketchlock.class.getDeclaredFields()) {
            if (Modifier.isPrivate(field.getModifiers())) {
                continue;
            }
            boolean isConstant = Modifier.toString(field.getModifiers()).equals("public static final");
            seen.add(isConstant ? field.getName() + "=" + field.getInt(null) : "no constant: " + field.getName());
        }
        return seen;
    }
}
