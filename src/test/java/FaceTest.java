import java.lang.reflect.Constructor;
import java.lang.reflect.Field;
import java.lang.reflect.Method;
import java.lang.reflect.Modifier;
import java.util.Arrays;
import java.util.Set;
import java.util.TreeSet;

/** The public face is that of the document, and nothing else; no private method bears a name of it. */
public final class FaceTest {
    private static final String[] FACE = {
        "int production(int,int,int,int) IndexOutOfBoundsException IllegalArgumentException IllegalStateException",
        "int forward(int,int,int,int,int) IndexOutOfBoundsException IllegalArgumentException",
        "int rule(int,int,int) IndexOutOfBoundsException IllegalArgumentException",
        "int attribute(int) IllegalArgumentException IllegalStateException",
        "int step(int,int,int) IndexOutOfBoundsException IllegalArgumentException IllegalStateException",
        "int dropSteps()",
        "int equation(int,int,int,int) IndexOutOfBoundsException IllegalArgumentException IllegalStateException",
        "boolean toggle(int) IndexOutOfBoundsException",
        "int conflicts()",
        "int ringIn()",
        "int insert(int,int) IndexOutOfBoundsException IllegalArgumentException IllegalStateException",
        "int delete(int) IndexOutOfBoundsException IllegalStateException",
        "int read() IllegalStateException",
        "int cost()",
        "int node(int) IndexOutOfBoundsException",
        "int rewrite(int) IndexOutOfBoundsException",
        "int value(int,int) IndexOutOfBoundsException",
        "int valueAnew(int,int) IndexOutOfBoundsException",
        "int found()",
        "boolean isKept(int,int) IndexOutOfBoundsException",
        "int why(int,int,int) IndexOutOfBoundsException",
    };

    private static String told(Method method) {
        StringBuilder told = new StringBuilder(method.getReturnType() + " " + method.getName() + "(");
        Class<?>[] types = method.getParameterTypes();
        for (int i = 0; i < types.length; i++) {
            told.append(i > 0 ? "," : "").append(types[i]);
        }
        told.append(")");
        for (Class<?> thrown : method.getExceptionTypes()) {
            told.append(" ").append(thrown.getSimpleName());
        }
        return told.toString();
    }

    private static Set<String> faceNames() {
        Set<String> names = new TreeSet<>();
        for (String line : FACE) {
            names.add(line.replaceAll("^\\w+ (\\w+)\\(.*", "$1"));
        }
        return names;
    }

    private static void face(Set<String> names) {
        Set<String> want = new TreeSet<>(Arrays.asList(FACE));
        for (Method method : AttribArbor.class.getDeclaredMethods()) {
            if (method.isSynthetic()) {
                continue;
            }
            if (Modifier.isPrivate(method.getModifiers())) {
                Due.is("private " + method.getName() + " bears a public name", names.contains(method.getName()), false);
                continue;
            }
            Due.is(told(method) + " is of the face", want.remove(told(method)), true);
            Due.is(method.getName() + " is public and not static", method.getModifiers(), Modifier.PUBLIC);
        }
        Due.is("calls that are missing " + want, want.size(), 0);
    }

    private static void insides(Set<String> names) {
        for (Class<?> inside : AttribArbor.class.getDeclaredClasses()) {
            for (Method method : inside.getDeclaredMethods()) {
                Due.is(method + " bears a public name", names.contains(method.getName()), false);
            }
            int how = inside.getModifiers();
            Due.is(inside + " is static", Modifier.isStatic(how), true);
            Due.is(inside + " is public", Modifier.isPublic(how) || Modifier.isProtected(how), false);
            for (Field field : inside.getDeclaredFields()) {
                boolean loose = Modifier.isStatic(field.getModifiers()) && !Modifier.isFinal(field.getModifiers());
                Due.is(field + " is static and not final", loose, false);
            }
        }
    }

    public static void main(String[] args) {
        int how = AttribArbor.class.getModifiers();
        Due.is("public", Modifier.isPublic(how), true);
        Due.is("final", Modifier.isFinal(how), true);
        Set<String> names = faceNames();
        Due.is("calls of the face", names.size(), 21);
        face(names);
        insides(names);
        Constructor<?>[] constructors = AttribArbor.class.getDeclaredConstructors();
        Due.is("constructors", constructors.length, 1);
        Due.is("the constructor's parameters", constructors[0].getParameterCount(), 0);
        Due.is("the constructor is public", Modifier.isPublic(constructors[0].getModifiers()), true);
        Set<String> constants = new TreeSet<>(Arrays.asList("NONE", "CYCLE", "CONFLICT", "REFERENCE"));
        for (Field field : AttribArbor.class.getDeclaredFields()) {
            if (!field.isSynthetic() && !Modifier.isPrivate(field.getModifiers())) {
                Due.is(field + " is a constant of the face", constants.remove(field.getName()), true);
                int constant = Modifier.PUBLIC | Modifier.STATIC | Modifier.FINAL;
                Due.is(field + " is public, static and final", field.getModifiers(), constant);
            }
        }
        Due.is("constants that are missing", constants.size(), 0);
        Due.is("NONE", AttribArbor.NONE, -1);
        Due.is("CYCLE", AttribArbor.CYCLE, -2);
        Due.is("CONFLICT", AttribArbor.CONFLICT, -3);
        Due.is("REFERENCE", AttribArbor.REFERENCE, 1000);
        Due.end("FaceTest");
    }
}
