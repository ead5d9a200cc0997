import java.lang.reflect.Constructor;
import java.lang.reflect.Field;
import java.lang.reflect.Method;
import java.lang.reflect.Modifier;
import java.util.Set;
import java.util.TreeSet;

/** The public face: what the document lists is visible from outside, and nothing else. */
public final class FaceTest {
    private static String signature(Class<?>[] parameters) {
        StringBuilder text = new StringBuilder("(");
        for (Class<?> parameter : parameters) {
            text.append(text.length() == 1 ? "" : ", ").append(parameter.getName());
        }
        return text.append(")").toString();
    }

    private static void addIfVisible(Set<String> visible, int modifiers, String member) {
        if (!Modifier.isPrivate(modifiers)) {
            visible.add((Modifier.toString(modifiers) + " " + member).trim());
        }
    }

    private static Set<String> visibleMembers() {
        Class<?> face = GraphPolynomials.class;
        Set<String> visible = new TreeSet<>();
        for (Field field : face.getDeclaredFields()) {
            addIfVisible(visible, field.getModifiers(), field.getType().getName() + " " + field.getName());
        }
        for (Constructor<?> made : face.getDeclaredConstructors()) {
            addIfVisible(visible, made.getModifiers(), "new" + signature(made.getParameterTypes()));
        }
        for (Method method : face.getDeclaredMethods()) {
            addIfVisible(visible, method.getModifiers(), method.getReturnType().getName() + " "
                    + method.getName() + signature(method.getParameterTypes()));
        }
        return visible;
    }

    public static void main(String[] args) {
        Check.due("visible members", visibleMembers(), new TreeSet<>(Set.of(
                "public static final int BAD",
                "public static final int FULL",
                "public new(int)",
                "public int add(int, int)",
                "public int drop(int)",
                "public int merge(int)",
                "public int edges()",
                "public int parts()",
                "public int coefficient(int, int)",
                "public int trees()",
                "public int forests()",
                "public int spanning()",
                "public int colourings(int)",
                "public int flows(int)",
                "public int acyclic()")));
        Check.due("class modifiers", Modifier.toString(GraphPolynomials.class.getModifiers()), "public final");
        Check.due("superclass", GraphPolynomials.class.getSuperclass(), Object.class);
        Check.due("interfaces", GraphPolynomials.class.getInterfaces().length, 0);
        Check.due("nested classes", GraphPolynomials.class.getDeclaredClasses().length, 0);
        Check.due("BAD", GraphPolynomials.BAD, -1);
        Check.due("FULL", GraphPolynomials.FULL, -2);
        Check.finish();
    }
}
