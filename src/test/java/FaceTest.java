import java.lang.reflect.Constructor;
import java.lang.reflect.Field;
import java.lang.reflect.Method;
import java.lang.reflect.Modifier;
import java.util.Set;
import java.util.TreeSet;

/** The class has the document's public face and no other. */
public final class FaceTest {
    private static final String FACE = "int growA(int) / int growB(int) / int putA(int,int) / int shiftB() / void clear()"
        + " / int lengths() / int commonB(int,int) / int commonA(int,int) / int commonEnd(int,int)"
        + " / int commonBegin(int,int) / int changesB(int,int) / int changesA(int,int) / int nearest()"
        + " / int nearestAt() / int shortest(int) / int widest(int) / int rotated() / int tight()";
    private static final Checks checks = new Checks();

    private static void methods() {
        Set<String> publicOnes = new TreeSet<>();
        Set<String> publicNames = new TreeSet<>();
        for (Method method : SeaweedWindows.class.getDeclaredMethods()) {
            if (Modifier.isPublic(method.getModifiers())) {
                StringBuilder form = new StringBuilder();
                for (Class<?> type : method.getParameterTypes()) {
                    form.append(form.length() == 0 ? "" : ",").append(type.getName());
                }
                publicOnes.add(method.getReturnType().getName() + " " + method.getName() + "(" + form + ")");
                publicNames.add(method.getName());
            }
        }
        checks.holds("the public methods " + publicOnes, publicOnes.equals(new TreeSet<>(Set.of(FACE.split(" / ")))));
        for (Method method : SeaweedWindows.class.getDeclaredMethods()) {
            boolean isPublic = Modifier.isPublic(method.getModifiers());
            boolean isHidden = Modifier.isPrivate(method.getModifiers()) && !publicNames.contains(method.getName());
            checks.holds("the reach and name of " + method, isPublic || isHidden);
            checks.holds("at most seven parameters of " + method, method.getParameterCount() <= 7);
        }
    }

    private static void fieldsAndConstructor() {
        Set<String> constants = new TreeSet<>();
        for (Field field : SeaweedWindows.class.getDeclaredFields()) {
            int kind = field.getModifiers();
            if (Modifier.isPublic(kind)) {
                checks.holds("a constant: " + field, Modifier.isStatic(kind) && Modifier.isFinal(kind));
                constants.add(field.getType().getName() + " " + field.getName());
            } else {
                checks.holds("the reach of " + field, Modifier.isPrivate(kind));
            }
        }
        checks.holds("the constants " + constants, constants.equals(new TreeSet<>(Set.of("int BAD_ARG", "int FULL", "int NONE"))));
        Constructor<?>[] constructors = SeaweedWindows.class.getDeclaredConstructors();
        checks.due("constructors", constructors.length, 1);
        checks.holds("the public one without arguments", Modifier.isPublic(constructors[0].getModifiers())
            && constructors[0].getParameterCount() == 0);
        checks.holds("final", Modifier.isFinal(SeaweedWindows.class.getModifiers()));
        checks.due("nested classes", SeaweedWindows.class.getDeclaredClasses().length, 0);
    }

    public static void main(String[] args) {
        methods();
        fieldsAndConstructor();
        checks.end();
    }
}
