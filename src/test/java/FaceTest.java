import java.lang.reflect.Constructor;
import java.lang.reflect.Field;
import java.lang.reflect.Method;
import java.lang.reflect.Modifier;
import java.util.Set;
import java.util.TreeSet;

/** The class shows the document's face and nothing else. */
public final class FaceTest {
    private static final Set<String> FACE = Set.of(
            "step/3", "drop/1", "initial/2", "steps/1", "runs/0", "kinds/0", "stuckKinds/0", "results/0",
            "nextResult/1", "kindsOf/1", "peak/1", "endings/1", "before/2", "tied/2", "shortestStuck/0");

    private static int wrong = 0;

    public static void main(String[] args) {
        Class<?> face = TraceExplorer.class;
        check("the class is public and final",
                Modifier.isPublic(face.getModifiers()) && Modifier.isFinal(face.getModifiers()));
        check("the class has no package", face.getPackageName().isEmpty());
        Constructor<?>[] made = face.getDeclaredConstructors();
        check("one public constructor without parameters",
                made.length == 1 && made[0].getParameterCount() == 0 && Modifier.isPublic(made[0].getModifiers()));
        checkMethods(face);
        for (Field field : face.getDeclaredFields()) {
            check("a field that is not private: " + field.getName(), Modifier.isPrivate(field.getModifiers()));
        }
        check("no nested class", face.getDeclaredClasses().length == 0);
        if (wrong != 0) {
            System.exit(1);
        }
        System.out.println("the face is as due");
    }

    private static void checkMethods(Class<?> face) {
        Set<String> found = new TreeSet<>();
        for (Method method : face.getDeclaredMethods()) {
            if (Modifier.isPrivate(method.getModifiers())) {
                continue;
            }
            found.add(method.getName() + "/" + method.getParameterCount());
            check(method + " is public, of the object, and answers an int",
                    Modifier.isPublic(method.getModifiers()) && !Modifier.isStatic(method.getModifiers())
                    && method.getReturnType() == int.class);
            for (Class<?> type : method.getParameterTypes()) {
                check(method + " takes ints", type == int.class);
            }
        }
        check("the methods are " + found, found.equals(FACE));
    }

    private static void check(String what, boolean holds) {
        if (!holds) {
            wrong++;
            System.out.println("not so: " + what);
        }
    }
}
