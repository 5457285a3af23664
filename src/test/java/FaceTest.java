import java.lang.reflect.Constructor;
import java.lang.reflect.Field;
import java.lang.reflect.Member;
import java.lang.reflect.Method;
import java.lang.reflect.Modifier;
import java.util.Arrays;
import java.util.Set;
import java.util.TreeSet;

/** The class has the document's face, and shows nothing else. */
public final class FaceTest {
    private static final String[] FACE = {
        "int create(int,int,int,int)", "int set(int,int,int,int,int)", "int copy(int,int)", "int multiply(int,int,int)",
        "int ring(int)", "int rows(int)", "int columns(int)", "int entry(int,int,int,int)",
        "int swap(int,boolean,int,int)", "int add(int,boolean,int,int,int,int)", "int scale(int,boolean,int,int,int)",
        "int back(int)", "int transfer(int,int,boolean)", "int hermite(int)", "int smith(int)", "int steps(int)",
        "int step(int,int,int)", "int entryAfter(int,int,int,int,int)", "int solve(int,int,int)", "int kernel(int,int)",
        "int invariant(int,int,int)", "long order(int)", "int determinant(int,int)", "boolean sameSpan(int,int)",
        "boolean areEquivalent(int,int)", "int quotient(int,int,int,int)", "int gcd(int,int,int,int,int,int)",
        "int type(int)", "int clearText()", "int fault(int)", "int parse(int,int)", "int write(int)", "int written(int)",
    };

    public static void main(String[] arguments) {
        int modifiers = RingMatrices.class.getModifiers();
        Script.check("the class is not public and final", Modifier.isPublic(modifiers) && Modifier.isFinal(modifiers));
        Script.check("NONE is not -1", RingMatrices.NONE == -1);
        Script.check("there is not one public constructor", RingMatrices.class.getConstructors().length == 1
            && RingMatrices.class.getConstructors()[0].getParameterCount() == 0);
        for (Constructor<?> constructor : RingMatrices.class.getDeclaredConstructors()) {
            checkHidden(constructor, constructor.getParameterCount() == 0);
        }
        Set<String> due = new TreeSet<>(Arrays.asList(FACE));
        Set<String> found = new TreeSet<>();
        Set<String> publicNames = new TreeSet<>();
        for (Method method : RingMatrices.class.getDeclaredMethods()) {
            if (Modifier.isPublic(method.getModifiers())) {
                found.add(signature(method));
                publicNames.add(method.getName());
            }
        }
        Script.check("the public methods are " + found, found.equals(due));
        for (Method method : RingMatrices.class.getDeclaredMethods()) {
            checkHidden(method, publicNames.contains(method.getName()) && Modifier.isPublic(method.getModifiers()));
            Script.check("not public, but named as a public method: " + method,
                Modifier.isPublic(method.getModifiers()) || !publicNames.contains(method.getName()));
        }
        for (Field field : RingMatrices.class.getDeclaredFields()) {
            checkHidden(field, field.getName().equals("NONE"));
        }
        for (Class<?> inside : RingMatrices.class.getDeclaredClasses()) {
            Script.check("a class inside is public or protected: " + inside,
                !Modifier.isPublic(inside.getModifiers()) && !Modifier.isProtected(inside.getModifiers()));
        }
        Script.finish();
    }

    private static void checkHidden(Member member, boolean ofTheFace) {
        Script.check("not of the face, but to be seen: " + member,
            ofTheFace || member.isSynthetic() || Modifier.isPrivate(member.getModifiers()));
    }

    private static String signature(Method method) {
        StringBuilder types = new StringBuilder();
        for (Class<?> type : method.getParameterTypes()) {
            types.append(types.length() > 0 ? "," : "").append(type.getName());
        }
        return method.getReturnType().getName() + " " + method.getName() + "(" + types + ")";
    }
}
