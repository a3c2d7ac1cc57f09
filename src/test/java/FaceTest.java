import java.lang.reflect.Constructor;
import java.lang.reflect.Field;
import java.lang.reflect.Method;
import java.lang.reflect.Modifier;
import java.util.Arrays;
import java.util.HashSet;
import java.util.Set;
import java.util.TreeSet;

/** The public face, and the rules of LANGUAGE.md that can be seen on the compiled class. */
public final class FaceTest {
    private static final Set<String> CONSTANTS = new TreeSet<>(Arrays.asList(
            "SET=0", "MOVE=1", "ADD=2", "SUB=3", "MUL=4", "LESS=5", "PRINT=6", "GOTO=7", "IFGOTO=8",
            "SWITCH=9", "STOP=10", "BAD=-1", "FULL=-2", "ENDED=1", "OUT_OF_FUEL=2"));
    private static final Set<String> METHODS = new TreeSet<>(Arrays.asList(
            "int emit(int,int,int,int)", "int retract()", "boolean start(int,int)", "int run(int)",
            "int executed()", "int printed()", "int output(int)", "int live(int)",
            "boolean meet(int,int)"));

    public static void main(String[] args) throws IllegalAccessException {
        classItself();
        constructors();
        fields();
        methods();
        Due.end();
    }

    private static void classItself() {
        Class<?> type = GotoColour.class;
        Due.is("the class is public and final", type.getModifiers(), Modifier.PUBLIC | Modifier.FINAL);
        Due.is("the class extends Object alone", type.getSuperclass() == Object.class, true);
        Due.is("interfaces", type.getInterfaces().length, 0);
        Due.is("nested classes", type.getDeclaredClasses().length, 0);
    }

    private static void constructors() {
        Constructor<?>[] all = GotoColour.class.getDeclaredConstructors();
        Due.is("constructors", all.length, 1);
        Due.is("the constructor is public", Modifier.isPublic(all[0].getModifiers()), true);
        Due.is("the constructor's parameters", all[0].getParameterCount(), 0);
    }

    private static void fields() throws IllegalAccessException {
        Set<String> seen = new TreeSet<>();
        for (Field field : GotoColour.class.getDeclaredFields()) {
            int how = field.getModifiers();
            if (Modifier.isPublic(how)) {
                Due.is(field + " is a constant int", how == (Modifier.PUBLIC | Modifier.STATIC | Modifier.FINAL)
                        && field.getType() == int.class, true);
                seen.add(field.getName() + "=" + field.getInt(null));
            } else {
                Due.is(field + " is private", Modifier.isPrivate(how), true);
            }
            if (Modifier.isStatic(how)) {
                Due.is(field + " is final and a number", Modifier.isFinal(how) && isNumber(field.getType()), true);
            }
            Due.is(field + " has a type of the language", isTypeOfTheLanguage(field.getType()), true);
        }
        Due.is("the constants " + seen, seen.equals(CONSTANTS), true);
    }

    private static void methods() {
        Set<String> seen = new TreeSet<>();
        Set<String> publicNames = new HashSet<>();
        for (Method method : GotoColour.class.getDeclaredMethods()) {
            if (Modifier.isPublic(method.getModifiers())) {
                seen.add(method.toString().replaceAll("^public |GotoColour\\.", ""));
                publicNames.add(method.getName());
            }
        }
        Due.is("the methods " + seen, seen.equals(METHODS), true);
        for (Method method : GotoColour.class.getDeclaredMethods()) {
            int how = method.getModifiers();
            Due.is(method + " has at most seven parameters", method.getParameterCount() <= 7, true);
            if (!Modifier.isPublic(how)) {
                Due.is(method + " is private", Modifier.isPrivate(how), true);
                Due.is(method + " has a name of its own", publicNames.contains(method.getName()), false);
            }
        }
    }

    private static boolean isNumber(Class<?> type) {
        return type == int.class || type == long.class;
    }

    private static boolean isTypeOfTheLanguage(Class<?> type) {
        Class<?> part = type.isArray() ? type.getComponentType() : type;
        return part.isPrimitive() && part != float.class && part != double.class;
    }
}
