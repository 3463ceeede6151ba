import java.lang.reflect.Constructor;
import java.lang.reflect.Field;
import java.lang.reflect.Member;
import java.lang.reflect.Method;
import java.lang.reflect.Modifier;
import java.util.ArrayList;
import java.util.Arrays;
import java.util.List;
import java.util.Set;
import java.util.TreeSet;

/** The public face of the document, and LANGUAGE.md's rule 1: these members and no others. */
public final class FaceTest {
    private static final String IAE = "IllegalArgumentException";
    private static final String ISE = "IllegalStateException";
    private static final String IOB = "IndexOutOfBoundsException";
    private static final Set<String> FACE = new TreeSet<>(Arrays.asList(
            "public final class FileBody",
            "public FileBody()",
            "public int make(int) " + IAE + " " + ISE,
            "public int link(int int) " + IAE + " " + ISE,
            "public int write(int int long int) " + IAE + " " + ISE,
            "public int paint(int int int int) " + IAE + " " + ISE,
            "public int read(int int) " + IAE + " " + IOB,
            "public int cut(int int) " + IAE,
            "public int links(int int) " + IAE,
            "public int drop(int) " + IAE + " " + ISE,
            "public int finish()",
            "public int about(int int) " + IAE,
            "public int block(int int) " + IAE,
            "public int count(int) " + IAE,
            "public int byteOf(int int) " + IOB));

    public static void main(String[] args) {
        Set<String> seen = new TreeSet<>();
        seen.add(Modifier.toString(FileBody.class.getModifiers()) + " class FileBody");
        addConstructors(seen);
        addMethods(seen);
        addOpenFields(seen);
        addClassesOfOtherForms(seen);
        if (!seen.equals(FACE)) {
            System.out.println("the face is " + seen + ", due is " + FACE);
            System.exit(1);
        }
        System.out.println("the face is as due");
    }

    /** Private ones too: there is one constructor, and it is public. */
    private static void addConstructors(Set<String> seen) {
        for (Constructor<?> made : FileBody.class.getDeclaredConstructors()) {
            seen.add(Modifier.toString(made.getModifiers()) + " FileBody"
                    + types(made.getParameterTypes()) + thrown(made.getExceptionTypes()));
        }
    }

    /** Open ones, and private ones that bear the name of a public one. */
    private static void addMethods(Set<String> seen) {
        Set<String> openNames = new TreeSet<>();
        for (Method method : FileBody.class.getMethods()) {
            openNames.add(method.getName());
        }
        for (Method method : FileBody.class.getDeclaredMethods()) {
            if (isOpen(method) || openNames.contains(method.getName())) {
                seen.add(Modifier.toString(method.getModifiers()) + " "
                        + method.getReturnType().getSimpleName() + " " + method.getName()
                        + types(method.getParameterTypes()) + thrown(method.getExceptionTypes()));
            }
        }
    }

    private static void addOpenFields(Set<String> seen) {
        for (Field field : FileBody.class.getDeclaredFields()) {
            if (isOpen(field)) {
                seen.add("field " + field.getName());
            }
        }
    }

    /** Classes inside that are not static, or neither private nor package-visible. */
    private static void addClassesOfOtherForms(Set<String> seen) {
        for (Class<?> inside : FileBody.class.getDeclaredClasses()) {
            int form = inside.getModifiers();
            if (!Modifier.isStatic(form) || Modifier.isPublic(form) || Modifier.isProtected(form)) {
                seen.add(Modifier.toString(form) + " class " + inside.getName());
            }
        }
    }

    private static boolean isOpen(Member member) {
        return !Modifier.isPrivate(member.getModifiers()) && !member.isSynthetic();
    }

    private static String types(Class<?>[] types) {
        return "(" + String.join(" ", names(types)) + ")";
    }

    private static String thrown(Class<?>[] types) {
        return types.length == 0 ? "" : " " + String.join(" ", names(types));
    }

    private static List<String> names(Class<?>[] types) {
        List<String> names = new ArrayList<>();
        for (Class<?> type : types) {
            names.add(type.getSimpleName());
        }
        return names;
    }
}
