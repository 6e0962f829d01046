import java.lang.reflect.Constructor;
import java.lang.reflect.Field;
import java.lang.reflect.Method;
import java.lang.reflect.Modifier;
import java.util.Arrays;
import java.util.Set;
import java.util.TreeSet;

/** The class's whole face, and those rules of LANGUAGE.md that the compiled class shows. */
public final class FaceTest {
    private static final Check CHECK = new Check("the public face");

    private static final String CONSTANTS =
        "NIL=-1 LIMBO_CAP=32 STATE_FREE=0 STATE_LIVE=1 STATE_RETIRED=2 CELL_STATE=0 CELL_VALUE=1 CELL_NEXT=2 "
        + "PH_IDLE=0 PH_PIN=1 PH_ALLOC=2 PH_READ_TOP=3 PH_LINK=4 PH_READ_CELL=5 PH_CAS=6 PH_RETIRE=7 PH_UNPIN=8 "
        + "RES_NONE=0 RES_OK=1 RES_EMPTY=2 RES_FULL=3 KIND_NONE=0 KIND_PUSH=1 KIND_POP=2 "
        + "L_KIND=0 L_MINE=1 L_SEEN=2 L_VALUE=3 L_RESULT=4 "
        + "C_ACCESS_TRAPS=0 C_DOUBLE_FREES=1 C_LAST_TRAP_CELL=2 C_DROPPED=3 C_ADVANCES=4 C_FREE_CELLS=5 "
        + "C_RETIRES=6 C_EPOCH=7";

    private static final String[] METHODS = {
        "boolean push(int, int)", "boolean pop(int)", "int step(int)", "int run(int, int)", "boolean tryAdvance()",
        "int phase(int)", "int announced(int)", "int lastResult(int)", "int lastValue(int)", "int local(int, int)",
        "int top()", "int cell(int, int)", "int limboSize(int)", "int limboCell(int, int)", "int counter(int)"
    };

    public static void main(String[] args) {
        CHECK.holds("Public constants", () -> sameSet("constants", publicConstants(), Set.of(CONSTANTS.split(" "))));
        CHECK.holds("The public face", () -> sameSet("methods", publicMethods(), Set.of(METHODS)));
        CHECK.holds("One class: the one of the document, public and final", FaceTest::checkClass);
        CHECK.holds("Types: int, long, short, byte, char, boolean, and one-dimensional arrays of these.",
            FaceTest::checkFields);
        CHECK.holds("No private method bears the name of a public one.", FaceTest::checkPrivateMethods);
        CHECK.end();
    }

    private static void sameSet(String what, Set<String> got, Set<String> due) {
        if (!got.equals(due)) {
            CHECK.fail("the " + what + " are " + got + ", due is " + new TreeSet<>(due));
        }
    }

    private static Set<String> publicConstants() {
        Set<String> found = new TreeSet<>();
        for (Field field : EpochReclaim.class.getDeclaredFields()) {
            if (!Modifier.isPrivate(field.getModifiers())) {
                CHECK.same(field + " is public static final int",
                    field.toString().startsWith("public static final int "), true);
                found.add(field.getName() + "=" + valueOf(field));
            }
        }
        return found;
    }

    private static Object valueOf(Field field) {
        try {
            return field.get(null);
        } catch (IllegalAccessException refused) {
            return "refused";
        }
    }

    private static Set<String> publicMethods() {
        Set<String> found = new TreeSet<>();
        for (Method method : EpochReclaim.class.getDeclaredMethods()) {
            if (!Modifier.isPrivate(method.getModifiers())) {
                CHECK.same(method + " is public and not static",
                    (method.getModifiers() & (Modifier.PUBLIC | Modifier.STATIC)) == Modifier.PUBLIC, true);
                found.add(signature(method));
            }
        }
        return found;
    }

    private static String signature(Method method) {
        String types = Arrays.toString(method.getParameterTypes());
        return method.getReturnType() + " " + method.getName() + "(" + types.substring(1, types.length() - 1) + ")";
    }

    private static void checkClass() {
        int modifiers = EpochReclaim.class.getModifiers();
        CHECK.same("the class is public and final", Modifier.isPublic(modifiers) && Modifier.isFinal(modifiers), true);
        CHECK.same("the class stands alone", EpochReclaim.class.getSuperclass() == Object.class
            && EpochReclaim.class.getInterfaces().length == 0
            && EpochReclaim.class.getDeclaredClasses().length == 0, true);
        Constructor<?>[] constructors = EpochReclaim.class.getDeclaredConstructors();
        CHECK.same("number of constructors", constructors.length, 1);
        CHECK.same("the constructor is public EpochReclaim(int,int,int)",
            constructors[0].toString().equals("public EpochReclaim(int,int,int)"), true);
    }

    private static void checkFields() {
        int instanceFields = 0;
        for (Field field : EpochReclaim.class.getDeclaredFields()) {
            Class<?> type = field.getType();
            if (Modifier.isStatic(field.getModifiers())) {
                CHECK.same(field + " is a constant of int or long",
                    Modifier.isFinal(field.getModifiers()) && (type == int.class || type == long.class), true);
            } else {
                instanceFields++;
                Class<?> held = type.isArray() ? type.getComponentType() : type;
                CHECK.same(field + " holds whole numbers or booleans",
                    held.isPrimitive() && held != float.class && held != double.class, true);
            }
        }
        CHECK.same("at most forty fields", instanceFields <= 40, true);
    }

    private static void checkPrivateMethods() {
        Set<String> publicNames = new TreeSet<>();
        for (String method : METHODS) {
            publicNames.add(method.substring(method.indexOf(' ') + 1, method.indexOf('(')));
        }
        for (Method method : EpochReclaim.class.getDeclaredMethods()) {
            CHECK.same(method + " has at most seven parameters", method.getParameterCount() <= 7, true);
            if (Modifier.isPrivate(method.getModifiers())) {
                CHECK.same(method + " bears a public method's name", publicNames.contains(method.getName()), false);
            }
        }
    }
}
