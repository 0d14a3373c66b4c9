import java.lang.reflect.Constructor;
import java.lang.reflect.Field;
import java.lang.reflect.Method;
import java.lang.reflect.Modifier;
import java.util.ArrayList;
import java.util.Collections;
import java.util.List;
import java.util.Set;
import java.util.TreeSet;

/** The public face is the document's, with nothing more to be seen from outside. */
public final class FaceTest {
    private static final String OUT = " throws java.lang.IndexOutOfBoundsException";
    private static final String ARGUMENT = " throws java.lang.IllegalArgumentException";
    private static final String STATE = "java.lang.IllegalStateException";
    private static final String[] METHODS = {
        "public boolean WaterBox.solid(int,int,boolean)" + OUT + "," + STATE,
        "public int WaterBox.add(float,float,float,float)" + ARGUMENT + "," + STATE,
        "public double WaterBox.pull(double)" + ARGUMENT,
        "public float WaterBox.share(float)" + ARGUMENT,
        "public double WaterBox.solver(int,int)" + ARGUMENT,
        "public int WaterBox.step(double)" + ARGUMENT + "," + STATE,
        "public boolean WaterBox.back(boolean)",
        "public float WaterBox.particle(int,int)" + OUT,
        "public double WaterBox.pressure(int,int)" + OUT,
        "public double WaterBox.face(int,int,int)" + OUT,
        "public double WaterBox.rest()",
        "public double WaterBox.energy()",
        "public float WaterBox.drift(int)",
        "public int WaterBox.count(int)",
    };

    public static void main(String[] args) {
        Check check = new Check("FaceTest");
        check.same("class", WaterBox.class.toGenericString(), "public final class WaterBox");
        check.same("class above it", WaterBox.class.getSuperclass().getName(), "java.lang.Object");
        check.same("interfaces", WaterBox.class.getInterfaces().length, 0);
        check.same("open or not static classes inside", openClasses().toString(), "[]");
        check.same("NONE", WaterBox.NONE, -1);

        List<String> due = new ArrayList<>(List.of(METHODS));
        Collections.sort(due);
        check.same("methods", String.join("\n", openMethods()), String.join("\n", due));

        List<String> constructors = new ArrayList<>();
        for (Constructor<?> made : WaterBox.class.getDeclaredConstructors()) {
            constructors.add(made.toString());
        }
        check.same("constructors", constructors.toString(), "[public WaterBox()]");

        List<String> fields = new ArrayList<>();
        for (Field field : WaterBox.class.getDeclaredFields()) {
            if (!Modifier.isPrivate(field.getModifiers())) {
                fields.add(field.toString());
            }
        }
        check.same("fields", fields.toString(), "[public static final int WaterBox.NONE]");
        check.same("private methods with a public one's name", sharedNames().toString(), "[]");
        check.end();
    }

    /** Those inside may be private or package-visible, and are static. */
    private static List<String> openClasses() {
        List<String> open = new ArrayList<>();
        for (Class<?> inside : WaterBox.class.getDeclaredClasses()) {
            int is = inside.getModifiers();
            if (Modifier.isPublic(is) || Modifier.isProtected(is) || !Modifier.isStatic(is)) {
                open.add(inside.getName());
            }
        }
        return open;
    }

    private static List<String> openMethods() {
        List<String> open = new ArrayList<>();
        for (Method method : WaterBox.class.getDeclaredMethods()) {
            if (!Modifier.isPrivate(method.getModifiers())) {
                open.add(method.toString());
            }
        }
        Collections.sort(open);
        return open;
    }

    private static Set<String> sharedNames() {
        Set<String> open = new TreeSet<>();
        Set<String> hidden = new TreeSet<>();
        for (Method method : WaterBox.class.getDeclaredMethods()) {
            (Modifier.isPrivate(method.getModifiers()) ? hidden : open).add(method.getName());
        }
        for (Class<?> inside : WaterBox.class.getDeclaredClasses()) {
            for (Method method : inside.getDeclaredMethods()) {
                hidden.add(method.getName());
            }
        }
        hidden.retainAll(open);
        return hidden;
    }
}
