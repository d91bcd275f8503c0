import java.lang.reflect.Constructor;
import java.lang.reflect.Field;
import java.lang.reflect.Member;
import java.lang.reflect.Method;
import java.lang.reflect.Modifier;
import java.util.Arrays;
import java.util.Set;
import java.util.TreeSet;

/** The public face: just the constants, the constructor and the methods of the document. */
public final class FaceTest {
    private static final Set<String> METHODS = new TreeSet<>(Arrays.asList(
        "int add[int, int]", "int remove[int]", "int move[int, int]", "int clearBox[int, int]",
        "int countBox[int, int]", "int sumBox[int, int]", "int countNear[int, int]",
        "int nearest[int, int]", "int firstIn[int, int]", "int placeOf[int]", "int labelOf[int]",
        "int closest[]", "int count[]"));

    public static void main(String[] args) throws IllegalAccessException {
        Due.same("the class's modifiers", Modifier.toString(CellIndex.class.getModifiers()),
            "public final");
        Due.same("the methods", methods(), METHODS);
        Due.same("the constants", constants(), new TreeSet<>(Arrays.asList(
            "BAD_PLACE = -1", "FULL = -2", "NO_POINT = -3", "BAD_RANK = -4")));
        Due.same("the constructors", constructors(), new TreeSet<>(Arrays.asList("public[]")));
        Due.is("nested classes", CellIndex.class.getDeclaredClasses().length, 0);
        Due.end();
    }

    private static Set<String> methods() {
        Set<String> seen = new TreeSet<>();
        for (Method method : CellIndex.class.getDeclaredMethods()) {
            if (!isPrivate(method)) {
                Due.same("the modifiers of " + method.getName(),
                    Modifier.toString(method.getModifiers()), "public");
                seen.add(method.getReturnType() + " " + method.getName()
                    + Arrays.toString(method.getParameterTypes()));
            }
        }
        return seen;
    }

    private static Set<String> constants() throws IllegalAccessException {
        Set<String> seen = new TreeSet<>();
        for (Field field : CellIndex.class.getDeclaredFields()) {
            if (!isPrivate(field)) {
                Due.same("the modifiers of " + field.getName(),
                    Modifier.toString(field.getModifiers()), "public static final");
                Due.same("the type of " + field.getName(), field.getType(), int.class);
                seen.add(field.getName() + " = " + field.get(null));
            }
        }
        return seen;
    }

    private static Set<String> constructors() {
        Set<String> seen = new TreeSet<>();
        for (Constructor<?> constructor : CellIndex.class.getDeclaredConstructors()) {
            if (!isPrivate(constructor)) {
                seen.add(Modifier.toString(constructor.getModifiers())
                    + Arrays.toString(constructor.getParameterTypes()));
            }
        }
        return seen;
    }

    private static boolean isPrivate(Member member) {
        return Modifier.isPrivate(member.getModifiers());
    }
}
