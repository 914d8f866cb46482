import java.lang.reflect.Constructor;
import java.lang.reflect.Field;
import java.lang.reflect.Method;
import java.lang.reflect.Modifier;
import java.util.Arrays;
import java.util.Set;
import java.util.TreeSet;

/** The public face: the constants with their numbers, the constructor and the methods, and nothing beside them. */
public final class FaceTest {
    private static final Check check = new Check();

    private static final String[] CONSTANTS = {
        "T_NUM 0", "T_VAR 1", "T_SET 2", "T_GLOB 3", "T_GSET 4", "T_PARAM 5", "T_ADD 6", "T_SUB 7", "T_MUL 8",
        "T_LESS 9", "T_IF 10", "T_SEQ 11", "T_PRINT 12", "T_BLOCK 13", "T_VALUE 14", "T_CALL 15", "T_RET 16",
        "K_INT 0", "K_BLOCK 1",
        "C_OK 0", "C_EMPTY 1", "C_INCOMPLETE 2", "C_METHODS 3", "C_DEEP 4", "C_PARAM 5", "C_CALL 6",
        "OUT_NOT_READY -1", "OUT_NONE 0", "OUT_RESULT 1", "OUT_CANNOT_RETURN 2", "OUT_FUEL 3", "OUT_TYPE 4",
        "OUT_DEPTH 5",
        "MAX_TOKENS 128", "MAX_METHODS 8", "MAX_DEPTH 8", "MAX_ACTIVE 16", "MAX_PRINTS 32", "MAX_FUEL 255"
    };

    private static final String[] METHODS = {
        "void clear[]", "boolean addToken[int, int]", "int tokenCount[]", "int compile[]", "int methodCount[]",
        "int run[int, int]", "int outcome[]", "int resultKind[]", "int resultValue[]", "int printCount[]",
        "int printKind[int]", "int printValue[int]", "int globalKind[int]", "int globalValue[int]",
        "int fuelLeft[]", "int maxDepth[]"
    };

    public static void main(String[] args) throws IllegalAccessException {
        constants();
        methods();
        constructors();
        check.due("the class is public and final",
            HomeContexts.class.getModifiers() == (Modifier.PUBLIC | Modifier.FINAL), true);
        check.due("classes inside", HomeContexts.class.getDeclaredClasses().length, 0);
        check.end();
    }

    private static void constants() throws IllegalAccessException {
        Set<String> found = new TreeSet<>();
        for (Field field : HomeContexts.class.getDeclaredFields()) {
            if (Modifier.isPrivate(field.getModifiers())) {
                continue;
            }
            check.due(field + " is a public int constant", field.getType() == int.class
                && field.getModifiers() == (Modifier.PUBLIC | Modifier.STATIC | Modifier.FINAL), true);
            found.add(field.getName() + " " + field.get(null));
        }
        check.same("the constants", found.toString(), new TreeSet<>(Arrays.asList(CONSTANTS)).toString());
    }

    private static void methods() {
        Set<String> found = new TreeSet<>();
        for (Method method : HomeContexts.class.getDeclaredMethods()) {
            if (Modifier.isPrivate(method.getModifiers())) {
                continue;
            }
            check.due(method + " is public", method.getModifiers() == Modifier.PUBLIC, true);
            String parameters = Arrays.toString(method.getParameterTypes());
            found.add(method.getReturnType() + " " + method.getName() + parameters);
        }
        check.same("the methods", found.toString(), new TreeSet<>(Arrays.asList(METHODS)).toString());
    }

    private static void constructors() {
        Constructor<?>[] all = HomeContexts.class.getDeclaredConstructors();
        check.due("constructors", all.length, 1);
        check.due("constructor's parameters", all[0].getParameterCount(), 0);
        check.due("constructor is public", Modifier.isPublic(all[0].getModifiers()), true);
    }
}
