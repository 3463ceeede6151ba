import java.lang.reflect.Constructor;
import java.lang.reflect.Field;
import java.lang.reflect.Member;
import java.lang.reflect.Method;
import java.lang.reflect.Modifier;
import java.util.ArrayList;
import java.util.Arrays;
import java.util.List;
import java.util.Set;
import java.util.TreeSet;

/** The public face of the document, and LANGUAGE.md's rule 1: these members and no others. */
public final class FaceTest {
    private static final String IAE = "IllegalArgumentException";
    private static final String ISE = "IllegalStateException";
    private static final String IOB = "IndexOutOfBoundsException";
    private static final Set<String> FACE = new TreeSet<>(Arrays.asList(
            "FileBody()",
            "int make(int) " + IAE + " " + ISE,
            "int link(int int) " + IAE + " " + ISE,
            "int write(int int long int) " + IAE + " " + ISE,
            "int paint(int int int int) " + IAE + " " + ISE,
            "int read(int int) " + IAE + " " + IOB,
            "int cut(int int) " + IAE,
            "int links(int int) " + IAE,
            "int drop(int) " + IAE + " " + ISE,
            "int finish()",
            "int about(int int) " + IAE,
            "int block(int int) " + IAE,
            "int count(int) " + IAE,
            "int byteOf(int int) " + IOB));

    public static void main(String[] args) {
        Set<String> seen = new TreeSet<>();
        Set<String> openNames = new TreeSet<>();
        for (Constructor<?> made : FileBody.class.getDeclaredConstructors()) {
            seen.add("FileBody" + types(made.getParameterTypes()) + thrown(made.getExceptionTypes()));
        }
        for (Method method : FileBody.class.getDeclaredMethods()) {
            if (isOpen(method)) {
                openNames.add(method.getName());
                seen.add(method.getReturnType().getSimpleName() + " " + method.getName()
                        + types(method.getParameterTypes()) + thrown(method.getExceptionTypes()));
            }
        }
        for (Field field : FileBody.class.getDeclaredFields()) {
            if (isOpen(field)) {
                seen.add("field " + field.getName());
            }
        }
        for (Class<?> inside : FileBody.class.getDeclaredClasses()) {
            if (!Modifier.isStatic(inside.getModifiers()) || Modifier.isPublic(inside.getModifiers())) {
                seen.add("class " + inside.getName());
            }
        }
        for (Method method : FileBody.class.getDeclaredMethods()) {
            if (!isOpen(method) && openNames.contains(method.getName())) {
                seen.add("private " + method.getName());
            }
        }
        boolean isFinal = Modifier.isFinal(FileBody.class.getModifiers());
        if (!seen.equals(FACE) || !isFinal) {
            System.out.println("the face is " + seen + (isFinal ? "" : ", not final") + ", due is " + FACE);
            System.exit(1);
        }
        System.out.println("the face is as due");
    }

    private static boolean isOpen(Member member) {
        return !Modifier.isPrivate(member.getModifiers()) && !member.isSynthetic();
    }

    private static String types(Class<?>[] types) {
        return "(" + String.join(" ", names(types)) + ")";
    }

    private static String thrown(Class<?>[] types) {
        return types.length == 0 ? "" : " " + String.join(" ", names(types));
    }

    private static List<String> names(Class<?>[] types) {
        List<String> names = new ArrayList<>();
        for (Class<?> type : types) {
            names.add(type.getSimpleName());
        }
        return names;
    }
}
