import java.lang.reflect.Constructor;
import java.lang.reflect.Field;
import java.lang.reflect.Method;
import java.lang.reflect.Modifier;
import java.util.Set;
import java.util.TreeSet;

/** The public face: the constants, constructor and methods of the document, and no other member that is not private. */
public final class FaceTest {
    private static final Set<String> FACE = Set.of(
        "MAX_NODES = 32", "MAX_INPUTS = 10",
        "KIND_BUF = 0", "KIND_NOT = 1", "KIND_AND = 2", "KIND_NAND = 3", "KIND_OR = 4",
        "KIND_NOR = 5", "KIND_XOR = 6", "KIND_XNOR = 7", "KIND_INPUT = 8",
        "STATUS_UNTRIED = 0", "STATUS_DETECTED = 1", "STATUS_UNTESTABLE = 2",
        "RESULT_UNTESTABLE = -1", "RESULT_NONE = -2",
        "public PodemTestGen(int,int)",
        "public int PodemTestGen.addInput()",
        "public int PodemTestGen.addGate(int,int,int)",
        "public boolean PodemTestGen.markOutput(int)",
        "public boolean PodemTestGen.seal()",
        "public int PodemTestGen.nextTest()",
        "public int PodemTestGen.nodeCount()",
        "public int PodemTestGen.nodeKind(int)",
        "public boolean PodemTestGen.isOutput(int)",
        "public int PodemTestGen.faultStatus(int)",
        "public int PodemTestGen.detectedBy(int)",
        "public int PodemTestGen.testCount()",
        "public int PodemTestGen.testVector(int)",
        "public int PodemTestGen.testTarget(int)",
        "public int PodemTestGen.evaluate(int,int)",
        "public boolean PodemTestGen.detects(int,int)",
        "public int PodemTestGen.simulate(int)");

    public static void main(String[] args) throws IllegalAccessException {
        Class<?> type = PodemTestGen.class;
        Check.due("modifiers of the class", Modifier.toString(type.getModifiers()), "public final");
        Check.due("nested classes", type.getDeclaredClasses().length, 0);
        Check.due("the face", face(type).toString(), new TreeSet<>(FACE).toString());
        privateNames(type);
        Check.end();
    }

    private static Set<String> face(Class<?> type) throws IllegalAccessException {
        Set<String> found = new TreeSet<>();
        for (Field field : type.getDeclaredFields()) {
            if (!Modifier.isPrivate(field.getModifiers())) {
                boolean constant = Modifier.toString(field.getModifiers()).equals("public static final")
                    && field.getType() == int.class;
                found.add(constant ? field.getName() + " = " + field.getInt(null) : field.toString());
            }
        }
        for (Constructor<?> constructor : type.getDeclaredConstructors()) {
            found.add(constructor.toString());
        }
        for (Method method : type.getDeclaredMethods()) {
            if (!Modifier.isPrivate(method.getModifiers())) {
                found.add(method.toString());
            }
        }
        return found;
    }

    private static void privateNames(Class<?> type) {
        Set<String> names = new TreeSet<>();
        for (Method method : type.getMethods()) {
            names.add(method.getName());
        }
        for (Method method : type.getDeclaredMethods()) {
            if (Modifier.isPrivate(method.getModifiers())) {
                Check.due("a public method is named " + method.getName(), names.contains(method.getName()), false);
            }
        }
    }
}
