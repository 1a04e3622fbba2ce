import java.lang.reflect.Constructor;
import java.lang.reflect.Field;
import java.lang.reflect.Method;
import java.lang.reflect.Modifier;
import java.util.Arrays;
import java.util.List;
import java.util.Set;
import java.util.TreeSet;

/** The public face of the document, and the rules of LANGUAGE.md that the compiled class shows. */
public final class FaceTest {
    private static final List<String> FACE = List.of(
        "boolean flow(int, int, int)", "void clear()", "boolean set(int, int)", "int about(int)",
        "int width(int, int)", "int turned(int, int)", "int row(int)", "int layer(int)",
        "int rest(int)", "int cost()", "int part(int)", "int items(int)", "int item(int, int)",
        "int place(int, int)", "int point(int, int, int, int)", "boolean keep()", "void forget()",
        "int orders()");
    private static final Due due = new Due("FaceTest");

    public static void main(String[] args) {
        publicFace();
        for (Class<?> inside : RibbonSetter.class.getDeclaredClasses()) {
            int modifiers = inside.getModifiers();
            due.is(inside + " is static", Modifier.isStatic(modifiers), true);
            due.is(inside + " is public", Modifier.isPublic(modifiers), false);
            due.is(inside + " is protected", Modifier.isProtected(modifiers), false);
            sizes(inside);
        }
        sizes(RibbonSetter.class);
        due.is("at most twelve classes", RibbonSetter.class.getDeclaredClasses().length < 12, true);
        due.end();
    }

    private static String sign(Method method) {
        String types = Arrays.toString(method.getParameterTypes());
        return method.getReturnType() + " " + method.getName() + "("
            + types.substring(1, types.length() - 1) + ")";
    }

    private static void publicFace() {
        due.is("public and final", Modifier.isFinal(RibbonSetter.class.getModifiers())
            && Modifier.isPublic(RibbonSetter.class.getModifiers()), true);
        due.is("NONE", RibbonSetter.NONE, -1);
        Set<String> shown = new TreeSet<>();
        for (Method method : RibbonSetter.class.getDeclaredMethods()) {
            if (Modifier.isPublic(method.getModifiers())) {
                shown.add(sign(method));
            } else {
                due.is(method + " is private", Modifier.isPrivate(method.getModifiers()), true);
            }
        }
        due.is("the methods are those of the document", shown.equals(new TreeSet<>(FACE)), true);
        for (Field field : RibbonSetter.class.getDeclaredFields()) {
            boolean constant = field.getName().equals("NONE");
            due.is(field + " is public", Modifier.isPublic(field.getModifiers()), constant);
            due.is(field + " is private", Modifier.isPrivate(field.getModifiers()), !constant);
        }
        Constructor<?>[] made = RibbonSetter.class.getDeclaredConstructors();
        due.is("one constructor", made.length, 1);
        due.is("it is public", Modifier.isPublic(made[0].getModifiers()), true);
        due.is("it takes nothing", made[0].getParameterCount(), 0);
    }

    private static void sizes(Class<?> one) {
        int fields = 0;
        for (Field field : one.getDeclaredFields()) {
            boolean fixed = Modifier.isStatic(field.getModifiers());
            fields += fixed ? 0 : 1;
            due.is(field + " is final if static", !fixed || Modifier.isFinal(field.getModifiers()), true);
        }
        due.is(one + " has at most twenty fields", fields <= 20, true);
        for (Method method : one.getDeclaredMethods()) {
            due.is(method + " takes at most seven", method.getParameterCount() <= 7, true);
            boolean named = FACE.stream().anyMatch(face -> face.contains(" " + method.getName() + "("));
            due.is(method + " has a name of the face", named,
                one == RibbonSetter.class && Modifier.isPublic(method.getModifiers()));
        }
    }
}
