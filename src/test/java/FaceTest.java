import java.lang.reflect.Constructor;
import java.lang.reflect.Field;
import java.lang.reflect.Member;
import java.lang.reflect.Method;
import java.lang.reflect.Modifier;
import java.util.ArrayList;
import java.util.List;
import java.util.Set;
import java.util.TreeSet;

/** The public face is the document's, and nothing else of the class is visible. */
public final class FaceTest {
    private static final String[] FACE = {
        "boolean type(long)",
        "int read()",
        "int make(int,int,int) IllegalArgumentException IllegalStateException",
        "int formulas()",
        "int about(int,int) IllegalArgumentException",
        "char written(int,int) IllegalArgumentException",
        "int put(int) IllegalArgumentException IllegalStateException",
        "int take(int)",
        "int draft(int)",
        "int axiom(int,int) IllegalArgumentException",
        "int one(int) IllegalArgumentException",
        "int top(int) IllegalArgumentException UnsupportedOperationException",
        "int bottom(int) IllegalArgumentException IllegalStateException UnsupportedOperationException",
        "int par(int,int) IllegalArgumentException IllegalStateException UnsupportedOperationException",
        "int plus(int,int,boolean) IllegalArgumentException IllegalStateException UnsupportedOperationException",
        "int with(int,int,int) IllegalArgumentException IllegalStateException UnsupportedOperationException",
        "int times(int,int,int) IllegalArgumentException IllegalStateException UnsupportedOperationException",
        "int cut(int,int,int) IllegalArgumentException IllegalStateException UnsupportedOperationException",
        "int drop(int) IllegalArgumentException",
        "boolean prove(int) IllegalArgumentException",
        "int step(int) IllegalArgumentException IllegalStateException UnsupportedOperationException",
        "int eliminate(int) IllegalArgumentException IllegalStateException UnsupportedOperationException",
        "int nodes(int) IllegalArgumentException",
        "int cuts(int) IllegalArgumentException",
        "int node(int,int,int) IllegalArgumentException IndexOutOfBoundsException",
        "int conclusion(int,int,int) IllegalArgumentException IndexOutOfBoundsException",
    };

    private static final List<String> wrong = new ArrayList<>();

    private static void check(boolean holds, String what) {
        if (!holds) {
            wrong.add(what);
        }
    }

    private static String told(Method method) {
        StringBuilder told = new StringBuilder();
        told.append(method.getReturnType().getName()).append(' ').append(method.getName()).append('(');
        Class<?>[] types = method.getParameterTypes();
        for (int i = 0; i < types.length; i++) {
            told.append(i == 0 ? "" : ",").append(types[i].getName());
        }
        told.append(')');
        for (Class<?> thrown : method.getExceptionTypes()) {
            told.append(' ').append(thrown.getSimpleName());
        }
        return told.toString();
    }

    private static boolean isPrivate(Member member) {
        return Modifier.isPrivate(member.getModifiers()) || member.isSynthetic();
    }

    public static void main(String[] args) {
        Class<ProofWorkbench> face = ProofWorkbench.class;
        check(Modifier.isPublic(face.getModifiers()) && Modifier.isFinal(face.getModifiers()), "public final class");
        Set<String> seen = new TreeSet<>();
        Set<String> names = new TreeSet<>();
        for (Method method : face.getDeclaredMethods()) {
            if (!isPrivate(method)) {
                check(Modifier.isPublic(method.getModifiers()), "not public: " + method);
                seen.add(told(method));
                names.add(method.getName());
            }
        }
        check(seen.equals(new TreeSet<>(List.of(FACE))), "the methods are " + seen);
        for (Field field : face.getDeclaredFields()) {
            check(isPrivate(field) || field.getName().equals("NONE"), "visible field " + field);
        }
        check(ProofWorkbench.NONE == -1, "NONE");
        Constructor<?>[] constructors = face.getDeclaredConstructors();
        check(constructors.length == 1 && constructors[0].getParameterCount() == 0, "one constructor");
        checkOwnNames(face, names);
        for (Class<?> inside : face.getDeclaredClasses()) {
            check(Modifier.isStatic(inside.getModifiers()), "not static: " + inside);
            checkOwnNames(inside, names);
        }
        for (String line : wrong) {
            System.out.println(line);
        }
        System.exit(wrong.isEmpty() ? 0 : 1);
    }

    private static void checkOwnNames(Class<?> owner, Set<String> names) {
        for (Method method : owner.getDeclaredMethods()) {
            boolean ofFace = owner == ProofWorkbench.class && Modifier.isPublic(method.getModifiers());
            check(ofFace || !names.contains(method.getName()), "bears the name of a public method: " + method);
        }
    }
}
