import java.lang.reflect.Constructor;
import java.lang.reflect.Field;
import java.lang.reflect.Method;
import java.lang.reflect.Modifier;
import java.util.ArrayList;
import java.util.List;
import java.util.Set;
import java.util.TreeSet;

/** "The public face": the class has the document's members and no other one that can be seen. */
public final class FaceTest {
    private static final List<String> FACE = List.of(
            "int link(int,int,int)", "int unlink(int)", "int share(int,int)", "int hold(int,int)",
            "int clear()", "long weight(int)", "int states(int,int)", "long parts(int)",
            "long pairs()", "long pivotal(int,int)", "long worst(int)", "int worstState(int)",
            "int cuts(int,int)", "int trees()", "int forests(int)", "int colourings(int)",
            "int polynomial(int,int)");

    private static final Due due = new Due();

    public static void main(String[] args) {
        Class<?> type = NetworkStates.class;
        theClass(type);
        theConstructor(type);
        theMethods(type);
        noFields(type);
        due.end();
    }

    private static void theClass(Class<?> type) {
        due.holds("public and final", type.getModifiers() == (Modifier.PUBLIC | Modifier.FINAL));
        due.holds("in no package", type.getPackageName().isEmpty());
        due.holds("extends nothing", type.getSuperclass() == Object.class);
        due.holds("implements nothing", type.getInterfaces().length == 0);
        due.holds("has no type parameters", type.getTypeParameters().length == 0);
        due.holds("no nested class", type.getDeclaredClasses().length == 0);
    }

    private static void theConstructor(Class<?> type) {
        Constructor<?>[] all = type.getDeclaredConstructors();
        due.answer("constructors", all.length, 1);
        due.holds("the constructor is public", all[0].getModifiers() == Modifier.PUBLIC);
        due.answer("its parameters", all[0].getParameterCount(), 0);
        due.answer("what it says to throw", all[0].getExceptionTypes().length, 0);
    }

    private static void theMethods(Class<?> type) {
        Set<String> seen = new TreeSet<>();
        for (Method m : type.getDeclaredMethods()) {
            if (!Modifier.isPrivate(m.getModifiers())) {
                due.holds(m + " is public and nothing else", m.getModifiers() == Modifier.PUBLIC);
                due.answer("what it says to throw: " + m, m.getExceptionTypes().length, 0);
                seen.add(signature(m));
            }
        }
        for (String wanted : FACE) {
            due.holds("there is " + wanted, seen.contains(wanted));
        }
        seen.removeAll(FACE);
        due.holds("no other member: " + seen, seen.isEmpty());
    }

    private static void noFields(Class<?> type) {
        for (Field f : type.getDeclaredFields()) {
            due.holds("private: " + f, Modifier.isPrivate(f.getModifiers()));
        }
    }

    private static String signature(Method m) {
        List<String> parameters = new ArrayList<>();
        for (Class<?> p : m.getParameterTypes()) {
            parameters.add(p.getName());
        }
        return m.getReturnType().getName() + " " + m.getName() + "(" + String.join(",", parameters) + ")";
    }
}
