import java.lang.reflect.Constructor;
import java.lang.reflect.Field;
import java.lang.reflect.Method;
import java.lang.reflect.Modifier;
import java.util.HashSet;
import java.util.Set;
import java.util.TreeSet;

/** The public face, as it is seen from outside; RulesTest looks at the source. */
public final class FaceTest {
    private static final String[] METHODS = {
        "setZone 4", "setCurve 3", "set 2", "load 2", "takeOff 1", "pass 1", "take 1", "restore 1", "undo 0",
        "append 1", "clearText 0", "carryOut 0", "count 1", "zone 2", "curve 2", "board 2", "fault 3",
        "worstCell 2", "faultCells 0", "foretell 2", "wouldFail 3", "heaviest 1", "room 0"};

    private FaceTest() {
    }

    public static void main(String[] args) {
        Check check = new Check("FaceTest");
        constants(check);
        face(check);
        for (Class<?> inner : BeggingBoards.class.getDeclaredClasses()) {
            classInside(check, inner);
        }
        check.end();
    }

    private static void constants(Check check) {
        check.due("INVALID_ARGUMENT", BeggingBoards.INVALID_ARGUMENT, -1001);
        check.due("ILLEGAL_STATE", BeggingBoards.ILLEGAL_STATE, -1002);
        check.due("CAPACITY_EXCEEDED", BeggingBoards.CAPACITY_EXCEEDED, -1003);
        check.due("NONE", BeggingBoards.NONE, -1009);
    }

    private static void face(Check check) {
        Class<?> it = BeggingBoards.class;
        check.holds("the class is public and final",
                Modifier.isPublic(it.getModifiers()) && Modifier.isFinal(it.getModifiers()));
        Set<String> found = new TreeSet<>();
        for (Method method : it.getDeclaredMethods()) {
            if (!Modifier.isPrivate(method.getModifiers())) {
                found.add(method.getName() + " " + method.getParameterCount());
                check.holds(method + " is public, of the object, over int alone", Modifier.isPublic(method.getModifiers())
                        && !Modifier.isStatic(method.getModifiers()) && isOverIntAlone(method));
            }
        }
        check.holds("the methods are those of the document: " + found, found.equals(new TreeSet<>(Set.of(METHODS))));
        Set<String> constants = new TreeSet<>();
        for (Field field : it.getDeclaredFields()) {
            if (!Modifier.isPrivate(field.getModifiers())) {
                constants.add(field.getName());
            }
            check.holds(field + ", if static, is final",
                    !Modifier.isStatic(field.getModifiers()) || Modifier.isFinal(field.getModifiers()));
        }
        check.holds("the constants are those of the document: " + constants, constants.equals(
                Set.of("INVALID_ARGUMENT", "ILLEGAL_STATE", "CAPACITY_EXCEEDED", "NONE")));
        Constructor<?>[] constructors = it.getDeclaredConstructors();
        check.holds("one public constructor without parameters", constructors.length == 1
                && constructors[0].getParameterCount() == 0 && Modifier.isPublic(constructors[0].getModifiers()));
    }

    private static boolean isOverIntAlone(Method method) {
        boolean so = method.getReturnType() == int.class;
        for (Class<?> type : method.getParameterTypes()) {
            so = so && type == int.class;
        }
        return so;
    }

    private static void classInside(Check check, Class<?> inner) {
        check.holds(inner + " is static, and neither public nor protected", Modifier.isStatic(inner.getModifiers())
                && !Modifier.isPublic(inner.getModifiers()) && !Modifier.isProtected(inner.getModifiers()));
        Set<String> publicNames = new HashSet<>();
        for (Method method : BeggingBoards.class.getMethods()) {
            publicNames.add(method.getName());
        }
        for (Method method : inner.getDeclaredMethods()) {
            check.holds(method + " bears no public name", !publicNames.contains(method.getName()));
            check.holds(method + " takes at most seven parameters", method.getParameterCount() <= 7);
        }
        int fields = 0;
        for (Field field : inner.getDeclaredFields()) {
            if (Modifier.isStatic(field.getModifiers())) {
                check.holds(field + " is final", Modifier.isFinal(field.getModifiers()));
            } else {
                fields++;
            }
        }
        check.holds(inner + " has at most twenty fields", fields <= 20);
    }
}
