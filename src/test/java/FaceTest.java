import java.lang.reflect.Constructor;
import java.lang.reflect.Field;
import java.lang.reflect.Method;
import java.lang.reflect.Modifier;
import java.util.HashSet;
import java.util.Set;
import java.util.TreeSet;

/** The public face is the document's and no more, and the fields are what LANGUAGE.md allows. */
public final class FaceTest {
    private static final Set<String> FACE = Set.of("set/2", "sow/2", "get/1", "result/2", "unit/3",
            "most/2", "least/2", "mostAt/2", "safe/3", "breach/3", "fixed/3", "radius/3", "patterns/2");

    public static void main(String[] args) {
        theClass();
        theMethods();
        theFields();
        Check.end();
    }

    private static void theClass() {
        int modifiers = ReluBounds.class.getModifiers();
        Check.due("class is public and final", 1,
                Modifier.isPublic(modifiers) && Modifier.isFinal(modifiers) ? 1 : 0);
        Check.due("nested classes", 0, ReluBounds.class.getDeclaredClasses().length);
        Constructor<?>[] constructors = ReluBounds.class.getDeclaredConstructors();
        Check.due("constructors", 1, constructors.length);
        Check.due("parameters of the constructor", 0, constructors[0].getParameterCount());
        Check.due("constructor is public", 1, Modifier.isPublic(constructors[0].getModifiers()) ? 1 : 0);
    }

    private static void theMethods() {
        Set<String> open = new TreeSet<>();
        Set<String> openNames = new HashSet<>();
        for (Method method : ReluBounds.class.getDeclaredMethods()) {
            if (!Modifier.isPrivate(method.getModifiers())) {
                open.add(method.getName() + "/" + method.getParameterCount());
                openNames.add(method.getName());
                Check.due(method + " is public", 1, Modifier.isPublic(method.getModifiers()) ? 1 : 0);
                Check.due(method + " is not static", 0, Modifier.isStatic(method.getModifiers()) ? 1 : 0);
                Check.due(method + " answers an int", 1, method.getReturnType() == int.class ? 1 : 0);
                for (Class<?> type : method.getParameterTypes()) {
                    Check.due(method + " takes ints", 1, type == int.class ? 1 : 0);
                }
            }
        }
        Check.due("open methods " + open + " are the document's", 1, open.equals(FACE) ? 1 : 0);
        for (Method method : ReluBounds.class.getDeclaredMethods()) {
            if (Modifier.isPrivate(method.getModifiers())) {
                Check.due(method + " has a name of its own", 0, openNames.contains(method.getName()) ? 1 : 0);
            }
        }
    }

    private static void theFields() {
        for (Field field : ReluBounds.class.getDeclaredFields()) {
            int modifiers = field.getModifiers();
            Check.due(field + " is private", 1, Modifier.isPrivate(modifiers) ? 1 : 0);
            if (Modifier.isStatic(modifiers)) {
                boolean number = field.getType() == int.class || field.getType() == long.class;
                Check.due(field + " is a constant number", 1, number && Modifier.isFinal(modifiers) ? 1 : 0);
            }
        }
    }
}
