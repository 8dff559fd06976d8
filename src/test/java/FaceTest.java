import java.lang.reflect.Constructor;
import java.lang.reflect.Field;
import java.lang.reflect.Method;
import java.lang.reflect.Modifier;
import java.util.Set;
import java.util.TreeSet;

/** The public face is the document's and no more; the shape of the class keeps to LANGUAGE.md. */
final class FaceTest {
    private static final Set<String> FACE = Set.of(
        "public int type(int)", "public int back()", "public void erase()", "public int load(int)",
        "public int letter(int)", "public int insert()", "public int delete()", "public int size()",
        "public int before()", "public boolean held()", "public int beginning()", "public int common()");
    private static final Set<Class<?>> NUMBERS = Set.of(
        int.class, long.class, short.class, byte.class, char.class, boolean.class);
    private static final Check check = new Check("FaceTest");

    public static void main(String[] args) {
        theClass();
        theConstructor();
        theMethods();
        theFields();
        check.end();
    }

    private static void theClass() {
        check.due("public and final", TermIndex.class.getModifiers(), Modifier.PUBLIC | Modifier.FINAL);
        check.due("no package", TermIndex.class.getPackageName().isEmpty(), true);
        check.due("nothing extended", TermIndex.class.getSuperclass() == Object.class, true);
        check.due("interfaces", TermIndex.class.getInterfaces().length, 0);
        check.due("nested classes", TermIndex.class.getDeclaredClasses().length, 0);
    }

    private static void theConstructor() {
        Constructor<?>[] made = TermIndex.class.getDeclaredConstructors();
        check.due("constructors", made.length, 1);
        check.due("parameters of the constructor", made[0].getParameterCount(), 0);
        check.due("modifiers of the constructor", made[0].getModifiers(), Modifier.PUBLIC);
    }

    private static void theMethods() {
        Set<String> found = new TreeSet<>();
        Set<String> publicNames = new TreeSet<>();
        for (Method method : TermIndex.class.getDeclaredMethods()) {
            if (Modifier.isPublic(method.getModifiers())) {
                found.add(method.toString().replace("TermIndex.", ""));
                publicNames.add(method.getName());
            }
        }
        check.due("the public methods " + found + " are the document's", found.equals(FACE), true);
        for (Method method : TermIndex.class.getDeclaredMethods()) {
            if (!Modifier.isPublic(method.getModifiers())) {
                check.due(method + " is private", Modifier.isPrivate(method.getModifiers()), true);
                check.due(method + " bears a public name", publicNames.contains(method.getName()), false);
            }
            check.due(method + " has at most 7 parameters", method.getParameterCount() <= 7, true);
        }
    }

    private static void theFields() {
        for (Field field : TermIndex.class.getDeclaredFields()) {
            check.due(field + " is private", Modifier.isPrivate(field.getModifiers()), true);
            Class<?> type = field.getType();
            if (Modifier.isStatic(field.getModifiers())) {
                check.due(field + " is a constant", Modifier.isFinal(field.getModifiers())
                    && (type == int.class || type == long.class), true);
            } else {
                check.due(field + " is a number or a row of numbers",
                    NUMBERS.contains(type.isArray() ? type.getComponentType() : type), true);
            }
        }
    }
}
