import java.lang.reflect.Constructor;
import java.lang.reflect.Field;
import java.lang.reflect.Method;
import java.lang.reflect.Modifier;
import java.util.Arrays;
import java.util.HashSet;
import java.util.Set;
import java.util.TreeSet;

/** The members of the class that others can see are those of the document's face and no others. */
public final class FaceTest {
    private static final String[] FACE = {
        "int symbol(int) IllegalArgumentException IllegalStateException",
        "int variable(int) IllegalArgumentException IllegalStateException",
        "int term(int,int,int,int) IllegalArgumentException IllegalStateException",
        "int rule(int,int) IllegalArgumentException IllegalStateException",
        "void order(int,int,int) IllegalArgumentException",
        "int rank(int) IllegalArgumentException",
        "boolean greater(int,int,int) IllegalArgumentException",
        "boolean same(int,int) IllegalArgumentException",
        "boolean admissible()",
        "int oriented(int) IllegalArgumentException",
        "boolean search(int) IllegalArgumentException",
        "int step(int) IllegalArgumentException IllegalStateException",
        "int about(int,int) IllegalArgumentException",
        "int place(int,int) IllegalArgumentException IndexOutOfBoundsException",
        "int count(int)",
    };
    private static int wrong = 0;

    private static void due(String what, Object got, Object want) {
        if (!want.equals(got)) {
            wrong++;
            System.out.println(what + " is " + got + ", due is " + want);
        }
    }

    private static String described(Method m) {
        StringBuilder text = new StringBuilder();
        text.append(m.getReturnType().getSimpleName()).append(' ').append(m.getName()).append('(');
        for (int i = 0; i < m.getParameterCount(); i++) {
            text.append(i == 0 ? "" : ",").append(m.getParameterTypes()[i].getSimpleName());
        }
        text.append(')');
        for (Class<?> e : m.getExceptionTypes()) {
            text.append(' ').append(e.getSimpleName());
        }
        return text.toString();
    }

    private static Set<String> seenMethods() {
        Set<String> seen = new TreeSet<>();
        for (Method m : TermOrders.class.getDeclaredMethods()) {
            if (!Modifier.isPrivate(m.getModifiers())) {
                due(m.getName() + " public", Modifier.isPublic(m.getModifiers()), true);
                due(m.getName() + " static", Modifier.isStatic(m.getModifiers()), false);
                seen.add(described(m));
            }
        }
        return seen;
    }

    private static void checkPrivateNames() {
        Set<String> open = new HashSet<>();
        for (Method m : TermOrders.class.getMethods()) {
            open.add(m.getName());
        }
        for (Class<?> inner : TermOrders.class.getDeclaredClasses()) {
            due(inner + " static", Modifier.isStatic(inner.getModifiers()), true);
            for (Method m : inner.getDeclaredMethods()) {
                due(inner + "." + m.getName() + " is a name of the face",
                        open.contains(m.getName()), false);
            }
        }
        for (Method m : TermOrders.class.getDeclaredMethods()) {
            due(m.getName() + " private with a name of the face",
                    Modifier.isPrivate(m.getModifiers()) && open.contains(m.getName()), false);
        }
    }

    private static void checkFields() {
        for (Field f : TermOrders.class.getDeclaredFields()) {
            due(f.getName() + " private", Modifier.isPrivate(f.getModifiers()), true);
            if (Modifier.isStatic(f.getModifiers())) {
                due(f.getName() + " final", Modifier.isFinal(f.getModifiers()), true);
            }
        }
    }

    public static void main(String[] args) {
        due("the class public and final", Modifier.toString(TermOrders.class.getModifiers()),
                "public final");
        Constructor<?>[] constructors = TermOrders.class.getDeclaredConstructors();
        due("constructors", constructors.length, 1);
        due("the constructor", constructors[0].toString(), "public TermOrders()");
        due("methods", seenMethods(), new TreeSet<>(Arrays.asList(FACE)));
        checkPrivateNames();
        checkFields();
        System.out.println(wrong == 0 ? "all members are as due" : wrong + " are not as due");
        if (wrong != 0) {
            System.exit(1);
        }
    }
}
