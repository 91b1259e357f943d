import java.lang.reflect.Field;
import java.lang.reflect.Member;
import java.lang.reflect.Method;
import java.lang.reflect.Modifier;
import java.util.ArrayList;
import java.util.Arrays;
import java.util.HashSet;
import java.util.List;
import java.util.Set;

/** The public face, name by name, and that there is nothing else to be seen. */
final class FaceTest {
    private static final String A = "IllegalArgumentException";
    private static final String I = "IndexOutOfBoundsException";
    private static final String S = "IllegalStateException";

    private static final String[] METHODS = {
        "int append(int) " + A + " " + S,
        "int clearText()",
        "int errorPosition()",
        "int load() " + S,
        "int about(int) " + A,
        "int total(int) " + A,
        "int effect(int, int) " + I + " " + A,
        "int neighbor(int, boolean) " + I,
        "float economy()",
        "float share(int) " + I,
        "int tick(int) " + A,
        "int set(int, int) " + A,
        "int setValve(int, int) " + I + " " + A,
        "int setBleed(int, int) " + I + " " + A,
        "int wash(int, int) " + I + " " + A + " " + S,
        "int endWash(int) " + I + " " + S,
        "int undo() " + S,
        "int ahead(int, int, int) " + I + " " + A,
        "int growth(int, int) " + A,
        "int washGain(int, int, int) " + I + " " + A + " " + S,
        "int bestTurns(int, boolean) " + A,
        "int scaledAfter(int, int) " + I + " " + A,
        "int steamFor(int, int) " + A,
        "int runScript(int, long) " + A,
        "int simulate(long, int) " + A,
        "int save(int) " + I,
        "int restore(int) " + I + " " + S,
    };

    private FaceTest() {
    }

    public static void main(String[] args) throws NoSuchMethodException {
        methods();
        constants();
        kindOfClass();
        Due.end("FaceTest");
    }

    private static String told(Method method) {
        StringBuilder text = new StringBuilder(method.getReturnType().getSimpleName());
        text.append(' ').append(method.getName()).append('(');
        Class<?>[] kinds = method.getParameterTypes();
        for (int k = 0; k < kinds.length; k++) {
            text.append(k == 0 ? "" : ", ").append(kinds[k].getSimpleName());
        }
        text.append(')');
        for (Class<?> thrown : method.getExceptionTypes()) {
            text.append(' ').append(thrown.getSimpleName());
        }
        return text.toString();
    }

    private static void methods() {
        Set<String> names = new HashSet<>();
        List<String> open = new ArrayList<>();
        for (Method method : EffectTrain.class.getDeclaredMethods()) {
            if (!isHidden(method)) {
                open.add(told(method));
                names.add(method.getName());
                Due.same(method + " is static", false, Modifier.isStatic(method.getModifiers()));
            }
        }
        for (Method method : EffectTrain.class.getDeclaredMethods()) {
            if (isHidden(method)) {
                Due.same(method + " bears a public name", false, names.contains(method.getName()));
            }
        }
        open.sort(null);
        List<String> due = new ArrayList<>(Arrays.asList(METHODS));
        due.sort(null);
        Due.same("the methods", due, open);
    }

    private static boolean isHidden(Member member) {
        return Modifier.isPrivate(member.getModifiers()) || member.isSynthetic();
    }

    private static void constants() {
        List<String> open = new ArrayList<>();
        for (Field field : EffectTrain.class.getDeclaredFields()) {
            if (!isHidden(field)) {
                open.add(Modifier.toString(field.getModifiers()) + " " + field.getType() + " " + field.getName());
            }
        }
        Due.same("the constants", List.of("public static final int NONE"), open);
    }

    private static void kindOfClass() throws NoSuchMethodException {
        Class<?> face = EffectTrain.class;
        Due.same("the class", Modifier.PUBLIC | Modifier.FINAL, face.getModifiers());
        Due.same("its constructors", 1, face.getDeclaredConstructors().length);
        Due.same("its constructor", Modifier.PUBLIC, face.getDeclaredConstructor().getModifiers());
        for (Class<?> inside : face.getDeclaredClasses()) {
            Due.same(inside + " is static", true, Modifier.isStatic(inside.getModifiers()));
            Due.same(inside + " is public", false, Modifier.isPublic(inside.getModifiers()));
        }
    }
}
