import java.lang.reflect.Field;
import java.lang.reflect.Member;
import java.lang.reflect.Method;
import java.lang.reflect.Modifier;
import java.util.Arrays;
import java.util.List;
import java.util.TreeSet;

/** The public face of the document, no more and no less, and what can be seen of LANGUAGE.md's rules from outside. */
public final class FaceTest {
    private static final Check check = new Check("FaceTest");
    private static final Class<CutLatticeDetect> FACE = CutLatticeDetect.class;
    private static final List<String> METHODS = List.of(
            "boolean setInitial[int, int]", "boolean setBounds[int, int, int]", "boolean setPredicate[int, int]",
            "int local[int, int]", "int send[int, int]", "int receive[int, int, int]", "int eventCount[int]",
            "int stamp[int, int, int]", "int cutState[int, int, int, int]", "int countConsistent[]",
            "int countSatisfying[]", "boolean possibly[]", "int witness[int]", "boolean definitely[]",
            "int pathLength[]", "int pathStep[int]");
    private static final List<String> CONSTANTS = List.of(
            "MAX_PROCS=4", "MAX_EVENTS=6", "MAX_MESSAGES=16", "MODE_CONJ=0", "MODE_SUM_GE=1", "MODE_SUM_LE=2",
            "CUT_INVALID=0", "CUT_INCONSISTENT=1", "CUT_FALSE=2", "CUT_TRUE=3");

    public static void main(String[] args) throws ReflectiveOperationException {
        theClass();
        theMethods();
        theConstants();
        theFields();
        check.end();
    }

    private static boolean isSeen(Member member) {
        return !Modifier.isPrivate(member.getModifiers()) && !member.isSynthetic();
    }

    private static void theClass() {
        check.due("class modifiers", Modifier.toString(FACE.getModifiers()), "public final");
        check.due("superclass", FACE.getSuperclass(), Object.class);
        check.due("interfaces", FACE.getInterfaces().length, 0);
        check.due("nested classes", FACE.getDeclaredClasses().length, 0);
        check.due("package", FACE.getPackageName(), "");
        check.due("constructors", Arrays.toString(FACE.getDeclaredConstructors()),
                "[public CutLatticeDetect(int,int)]");
    }

    private static void theMethods() {
        TreeSet<String> got = new TreeSet<>();
        TreeSet<String> publicNames = new TreeSet<>();
        for (Method method : FACE.getDeclaredMethods()) {
            if (isSeen(method)) {
                got.add(method.getReturnType() + " " + method.getName()
                        + Arrays.toString(method.getParameterTypes()));
                publicNames.add(method.getName());
                check.due("modifiers of " + method.getName(), Modifier.toString(method.getModifiers()), "public");
            }
        }
        check.due("public methods", got, new TreeSet<>(METHODS));
        for (Method method : FACE.getDeclaredMethods()) {
            check.due("a private method named " + method.getName(),
                    !isSeen(method) && publicNames.contains(method.getName()), false);
            check.due("at most seven parameters of " + method.getName(), method.getParameterCount() <= 7, true);
        }
    }

    private static void theConstants() throws IllegalAccessException {
        TreeSet<String> got = new TreeSet<>();
        for (Field field : FACE.getDeclaredFields()) {
            if (isSeen(field)) {
                check.due("modifiers of " + field.getName(), Modifier.toString(field.getModifiers()),
                        "public static final");
                check.due("type of " + field.getName(), field.getType(), int.class);
                got.add(field.getName() + "=" + field.get(null));
            }
        }
        check.due("constants", got, new TreeSet<>(CONSTANTS));
    }

    private static void theFields() {
        int ofObject = 0;
        for (Field field : FACE.getDeclaredFields()) {
            Class<?> type = field.getType();
            boolean isStatic = Modifier.isStatic(field.getModifiers());
            Class<?> cell = type.isArray() && !isStatic ? type.getComponentType() : type;
            check.due("allowed type of " + field.getName(),
                    cell.isPrimitive() && cell != float.class && cell != double.class, true);
            check.due("static and not final: " + field.getName(),
                    isStatic && !Modifier.isFinal(field.getModifiers()), false);
            ofObject += isStatic ? 0 : 1;
        }
        check.due("at most forty fields", ofObject <= 40, true);
    }
}
