import java.lang.reflect.Constructor;
import java.lang.reflect.Field;
import java.lang.reflect.Method;
import java.lang.reflect.Modifier;
import java.util.Arrays;
import java.util.TreeSet;

/** The public face of the document, no more and no less, and with it rule 1 of LANGUAGE.md. */
public final class FaceTest {
    private static final String[] CONSTANTS = {
        "MIN_LEVEL -32768", "MAX_LEVEL 32768", "COEFFS 16", "PLACES 16", "MIN_BLOCKS 1", "MAX_BLOCKS 6",
        "R_CLOSED -1", "R_BAD_PLACE -2", "R_PLACE_USED -3", "R_FULL -4", "R_OPEN -5", "R_END -6"};
    private static final String[] METHODS = {
        "boolean setLevel[int, int]", "boolean setPair[int, int, int]", "void clearStaging[]", "int getStaged[int]",
        "int commit[int]", "boolean finish[]", "int decodeNext[]", "boolean rewind[]", "void reset[]",
        "int getDecoded[int]", "int decodedPlace[]", "int decodedCount[]", "int blockCount[]", "boolean isOpen[]",
        "boolean placeUsed[int]", "int capacity[]"};

    public static void main(String[] args) throws IllegalAccessException {
        classItself();
        constants();
        methods();
        Due.end("FaceTest");
    }

    private static void classItself() {
        Class<?> face = CabacResidual.class;
        Due.is("the class's modifiers", face.getModifiers(), Modifier.PUBLIC | Modifier.FINAL);
        Due.is("its package", face.getPackageName(), "");
        Due.is("its nested classes", face.getDeclaredClasses().length, 0);
        Constructor<?>[] constructors = face.getDeclaredConstructors();
        Due.is("its constructors", constructors.length, 1);
        Due.is("its constructor", constructors[0].toString(), "public CabacResidual(int)");
    }

    private static void constants() throws IllegalAccessException {
        TreeSet<String> seen = new TreeSet<>();
        for (Field field : CabacResidual.class.getDeclaredFields()) {
            if (Modifier.isPrivate(field.getModifiers())) {
                continue;
            }
            Due.is("modifiers of " + field.getName(), field.getModifiers(),
                    Modifier.PUBLIC | Modifier.STATIC | Modifier.FINAL);
            Due.is("type of " + field.getName(), field.getType().getName(), "int");
            seen.add(field.getName() + " " + field.getInt(null));
        }
        Due.is("the constants", seen.toString(), new TreeSet<>(Arrays.asList(CONSTANTS)).toString());
    }

    private static void methods() {
        TreeSet<String> seen = new TreeSet<>();
        TreeSet<String> publicNames = new TreeSet<>();
        for (Method method : CabacResidual.class.getDeclaredMethods()) {
            if (!Modifier.isPrivate(method.getModifiers())) {
                Due.is("modifiers of " + method.getName(), method.getModifiers(), Modifier.PUBLIC);
                seen.add(method.getReturnType() + " " + method.getName() + Arrays.toString(method.getParameterTypes()));
                publicNames.add(method.getName());
            }
        }
        Due.is("the methods", seen.toString(), new TreeSet<>(Arrays.asList(METHODS)).toString());
        for (Method method : CabacResidual.class.getDeclaredMethods()) {
            if (Modifier.isPrivate(method.getModifiers())) {
                Due.is("private " + method.getName() + " bears a public name", publicNames.contains(method.getName()), false);
            }
        }
    }
}
