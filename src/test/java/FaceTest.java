import java.lang.reflect.Constructor;
import java.lang.reflect.Field;
import java.lang.reflect.Method;
import java.lang.reflect.Modifier;
import java.util.Arrays;
import java.util.List;
import java.util.TreeSet;

/** The class has the document's face and, but for private things, no more. */
public final class FaceTest {
    private static final List<String> FACE = Arrays.asList(
        "boolean nodes(int)", "int link(int, int)", "int undo(int)", "int rain(int)", "int state(int)",
        "int linkOf(int, int)", "int bridge(int)", "int node(int, int)", "int block(int, int)",
        "int member(int, int)", "int child(int, int)", "int land(int, int)", "int story(int, int, int)",
        "int latest(int)", "int doubleSafe(int, int)", "int way(int, int, int)",
        "int since(int, int, int)", "int would(int, int, int)", "int best(int)", "int worst(int)",
        "int part(int, int)", "int centre(int)", "int between(int, int, int)",
        "int mending(int, int, int)", "int without(int, int, int)", "int ring(int, int)",
        "int wouldName(int, int, int)", "int bridgesBy(int)", "int look(int)");

    private static int wrong = 0;

    public static void main(String[] args) throws Exception {
        methods();
        fields();
        Class<SafeBlocks> face = SafeBlocks.class;
        check("public and final", Modifier.isPublic(face.getModifiers()) && Modifier.isFinal(face.getModifiers()));
        Constructor<?>[] made = face.getDeclaredConstructors();
        check("one public constructor", made.length == 1 && Modifier.isPublic(made[0].getModifiers())
            && made[0].getParameterCount() == 0);
        for (Class<?> inside : face.getDeclaredClasses()) {
            int is = inside.getModifiers();
            check(inside + " is static and hidden",
                Modifier.isStatic(is) && !Modifier.isPublic(is) && !Modifier.isProtected(is));
            check(inside + " has some twenty fields at the most", inside.getDeclaredFields().length <= 20);
            for (Method m : inside.getDeclaredMethods()) {
                check(m + " has a name of its own", !names().contains(m.getName()));
            }
        }
        check("at most twelve classes", face.getDeclaredClasses().length < 12);
        System.out.println(wrong == 0 ? "the face is as due" : wrong + " things of the face are not as due");
        if (wrong != 0) {
            System.exit(1);
        }
    }

    private static TreeSet<String> names() {
        TreeSet<String> names = new TreeSet<>();
        for (String signature : FACE) {
            names.add(signature.substring(signature.indexOf(' ') + 1, signature.indexOf('(')));
        }
        return names;
    }

    private static void methods() {
        TreeSet<String> seen = new TreeSet<>();
        TreeSet<String> names = names();
        for (Method m : SafeBlocks.class.getDeclaredMethods()) {
            StringBuilder told = new StringBuilder(m.getReturnType() + " " + m.getName() + "(");
            for (Class<?> type : m.getParameterTypes()) {
                told.append(told.charAt(told.length() - 1) == '(' ? "" : ", ").append(type);
            }
            told.append(")");
            if (Modifier.isPrivate(m.getModifiers()) || m.isSynthetic()) {
                check("private " + told + " has a name of its own", !names.contains(m.getName()));
            } else {
                check(told + " is public", Modifier.isPublic(m.getModifiers()));
                check(told + " is no more than the object's", !Modifier.isStatic(m.getModifiers()));
                seen.add(told.toString());
            }
        }
        check("the methods " + seen, seen.equals(new TreeSet<>(FACE)));
    }

    private static void fields() throws Exception {
        for (Field f : SafeBlocks.class.getDeclaredFields()) {
            int is = f.getModifiers();
            boolean none = f.getName().equals("NONE");
            check(f + " is hidden", none || Modifier.isPrivate(is));
            check(f + " does not change", !Modifier.isStatic(is) || Modifier.isFinal(is));
        }
        Field none = SafeBlocks.class.getField("NONE");
        check("NONE", none.getType() == int.class && none.getInt(null) == -1
            && Modifier.isStatic(none.getModifiers()));
    }

    private static void check(String what, boolean holds) {
        if (!holds) {
            wrong++;
            System.out.println("not as due: " + what);
        }
    }
}
