import java.lang.reflect.Constructor;
import java.lang.reflect.Field;
import java.lang.reflect.Method;
import java.lang.reflect.Modifier;
import java.util.ArrayList;
import java.util.Collections;
import java.util.List;

/** The class has the document's face and no other member that can be seen. */
public final class FaceTest {
    private static final List<String> FACE = List.of(
        "boolean say(int)",
        "int fault()",
        "int hypotheses(int) throws IndexOutOfBoundsException",
        "int judge()",
        "int size()",
        "int symbol(int, int, int) throws IndexOutOfBoundsException",
        "int typeSymbol(int, int, int, int) throws IndexOutOfBoundsException",
        "void cut(int) throws IllegalArgumentException",
        "void keep(int, int) throws IndexOutOfBoundsException, IllegalStateException, IllegalArgumentException");

    public static void main(String[] args) {
        Class<?> face = TraceJudge.class;
        Checks.that("public and final", Modifier.isPublic(face.getModifiers()) && Modifier.isFinal(face.getModifiers()));
        List<String> seen = new ArrayList<>();
        for (Method method : face.getDeclaredMethods()) {
            if (!Modifier.isPrivate(method.getModifiers())) {
                Checks.that(method + " is public", Modifier.isPublic(method.getModifiers()));
                seen.add(told(method));
            }
        }
        Collections.sort(seen);
        Checks.that("the methods are " + FACE + ", not " + seen, seen.equals(FACE));
        Constructor<?>[] constructors = face.getDeclaredConstructors();
        Checks.same("one constructor", constructors.length, 1);
        Checks.that("public, of nothing", Modifier.isPublic(constructors[0].getModifiers())
            && constructors[0].getParameterCount() == 0);
        fieldsAreHidden(face);
        for (Class<?> inside : face.getDeclaredClasses()) {
            Checks.that(inside + " is static", Modifier.isStatic(inside.getModifiers()));
            Checks.that(inside + " is hidden", !Modifier.isPublic(inside.getModifiers())
                && !Modifier.isProtected(inside.getModifiers()));
            fieldsAreHidden(inside);
        }
        Checks.end();
    }

    private static String told(Method method) {
        StringBuilder text = new StringBuilder(method.getReturnType() + " " + method.getName() + "(");
        for (int i = 0; i < method.getParameterCount(); i++) {
            text.append(i == 0 ? "" : ", ").append(method.getParameterTypes()[i]);
        }
        text.append(")");
        String before = " throws ";
        for (Class<?> thrown : method.getExceptionTypes()) {
            text.append(before).append(thrown.getSimpleName());
            before = ", ";
        }
        return text.toString();
    }

    /** Static fields are final, and no field can be seen. */
    private static void fieldsAreHidden(Class<?> of) {
        for (Field field : of.getDeclaredFields()) {
            Checks.that(field + " is private", Modifier.isPrivate(field.getModifiers()));
            Checks.that(field + " is final, if static",
                !Modifier.isStatic(field.getModifiers()) || Modifier.isFinal(field.getModifiers()));
        }
    }
}
