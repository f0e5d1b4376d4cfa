import java.lang.reflect.Constructor;
import java.lang.reflect.Field;
import java.lang.reflect.Method;
import java.lang.reflect.Modifier;
import java.util.Set;
import java.util.TreeSet;

/** The public face is the document's, and no other member can be seen from outside. */
public final class FaceTest {
    private static int wrong = 0;

    public static void main(String[] args) {
        Set<String> due = new TreeSet<>(Set.of(
            "public static final int SignCutter.NONE",
            "public SignCutter(int,int)",
            "public void SignCutter.column(int,int,boolean) throws java.lang.ArrayIndexOutOfBoundsException",
            "public int SignCutter.cut(int)",
            "public int SignCutter.way(int,int)",
            "public long SignCutter.cost(int)",
            "public int SignCutter.signs(int)",
            "public int SignCutter.base(int)",
            "public int SignCutter.slant()",
            "public int SignCutter.plain(int)"));
        Set<String> seen = new TreeSet<>();
        Set<String> publicNames = new TreeSet<>();
        for (Field field : SignCutter.class.getDeclaredFields()) {
            if (!Modifier.isPrivate(field.getModifiers())) {
                seen.add(field.toString());
            } else if (Modifier.isStatic(field.getModifiers()) && !Modifier.isFinal(field.getModifiers())) {
                tell("static state: " + field);
            }
        }
        for (Constructor<?> constructor : SignCutter.class.getDeclaredConstructors()) {
            seen.add(constructor.toString());
        }
        for (Method method : SignCutter.class.getDeclaredMethods()) {
            if (!Modifier.isPrivate(method.getModifiers())) {
                seen.add(method.toString());
                publicNames.add(method.getName());
            }
        }
        for (Method method : SignCutter.class.getDeclaredMethods()) {
            if (Modifier.isPrivate(method.getModifiers()) && publicNames.contains(method.getName())) {
                tell("a private method bears a public one's name: " + method);
            }
        }
        if (!seen.equals(due)) {
            tell("the face is " + seen + ", due is " + due);
        }
        int modifiers = SignCutter.class.getModifiers();
        if (!Modifier.isPublic(modifiers) || !Modifier.isFinal(modifiers)) {
            tell("the class is not public and final");
        }
        if (SignCutter.NONE != -1) {
            tell("NONE is " + SignCutter.NONE);
        }
        System.out.println(wrong == 0 ? "the face is as due" : wrong + " faults of the face");
        if (wrong != 0) {
            System.exit(1);
        }
    }

    private static void tell(String fault) {
        wrong++;
        System.out.println(fault);
    }
}
