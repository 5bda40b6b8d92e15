import java.lang.reflect.Constructor;
import java.lang.reflect.Field;
import java.lang.reflect.Method;
import java.lang.reflect.Modifier;
import java.util.HashSet;
import java.util.Set;
import java.util.TreeSet;

/** The public face is the document's and no more, and types and fields are what LANGUAGE.md allows. */
public final class FaceTest {
    private static final Set<String> FACE = Set.of("set/2", "sow/2", "get/1", "result/2", "unit/3",
            "most/2", "least/2", "mostAt/2", "safe/3", "breach/3", "fixed/3", "radius/3", "patterns/2");
    private static final Set<Class<?>> NUMBERS = Set.of(int.class, long.class, short.class, byte.class,
            char.class, boolean.class);
    private static final int MOST_PARAMETERS = 7;
    private static final int MOST_FIELDS = 40;

    public static void main(String[] args) {
        theClass();
        theMethods();
        thePrivateMethods();
        theFields();
        Check.end();
    }

    private static void theClass() {
        int modifiers = ReluBounds.class.getModifiers();
        Check.due("class is public and final", 1,
                Modifier.isPublic(modifiers) && Modifier.isFinal(modifiers) ? 1 : 0);
        Check.due("nested classes", 0, ReluBounds.class.getDeclaredClasses().length);
        Constructor<?>[] constructors = ReluBounds.class.getDeclaredConstructors();
        Check.due("constructors", 1, constructors.length);
        Check.due("parameters of the constructor", 0, constructors[0].getParameterCount());
        Check.due("constructor is public", 1, Modifier.isPublic(constructors[0].getModifiers()) ? 1 : 0);
    }

    private static void theMethods() {
        Set<String> open = new TreeSet<>();
        Set<String> openNames = new HashSet<>();
        for (Method method : ReluBounds.class.getDeclaredMethods()) {
            if (!Modifier.isPrivate(method.getModifiers())) {
                open.add(method.getName() + "/" + method.getParameterCount());
                openNames.add(method.getName());
                Check.due(method + " is public", 1, Modifier.isPublic(method.getModifiers()) ? 1 : 0);
                Check.due(method + " is not static", 0, Modifier.isStatic(method.getModifiers()) ? 1 : 0);
                Check.due(method + " answers an int", 1, method.getReturnType() == int.class ? 1 : 0);
                for (Class<?> type : method.getParameterTypes()) {
                    Check.due(method + " takes ints", 1, type == int.class ? 1 : 0);
                }
            }
        }
        Check.due("open methods " + open + " are the document's", 1, open.equals(FACE) ? 1 : 0);
        for (Method method : ReluBounds.class.getDeclaredMethods()) {
            if (Modifier.isPrivate(method.getModifiers())) {
                Check.due(method + " has a name of its own", 0, openNames.contains(method.getName()) ? 1 : 0);
            }
        }
    }

    // Rules 2, 4 and 10: what a method takes and answers.
    private static void thePrivateMethods() {
        for (Method method : ReluBounds.class.getDeclaredMethods()) {
            if (Modifier.isPrivate(method.getModifiers())) {
                Class<?> answer = method.getReturnType();
                Check.due(method + " answers no object and no array", 1,
                        answer == void.class || NUMBERS.contains(answer) ? 1 : 0);
                for (Class<?> type : method.getParameterTypes()) {
                    Check.due(method + " takes numbers and rows of them", 1, isAllowed(type) ? 1 : 0);
                }
                Check.due(method + " takes at most seven", 1,
                        method.getParameterCount() <= MOST_PARAMETERS ? 1 : 0);
            }
        }
    }

    private static boolean isAllowed(Class<?> type) {
        return NUMBERS.contains(type) || type.isArray() && NUMBERS.contains(type.getComponentType());
    }

    // Rules 1, 2, 5 and 10: what the fields are, and how many.
    private static void theFields() {
        int ofObject = 0;
        for (Field field : ReluBounds.class.getDeclaredFields()) {
            int modifiers = field.getModifiers();
            Check.due(field + " is private", 1, Modifier.isPrivate(modifiers) ? 1 : 0);
            Check.due(field + " is a number or a row of them", 1, isAllowed(field.getType()) ? 1 : 0);
            if (Modifier.isStatic(modifiers)) {
                boolean number = field.getType() == int.class || field.getType() == long.class;
                Check.due(field + " is a constant number", 1, number && Modifier.isFinal(modifiers) ? 1 : 0);
            } else {
                ofObject++;
            }
        }
        Check.due("fields beside the constants are at most some forty", 1, ofObject <= MOST_FIELDS ? 1 : 0);
    }
}
