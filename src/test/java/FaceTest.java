import java.lang.reflect.Constructor;
import java.lang.reflect.Field;
import java.lang.reflect.Method;
import java.lang.reflect.Modifier;
import java.util.Set;
import java.util.TreeSet;

/** The public face: the document's constructor and methods, and no other member that can be seen. */
public final class FaceTest {
    private static final Set<String> FACE = Set.of(
        "public int PyramidSender.draw(int,int,int)",
        "public void PyramidSender.ramp(int,int,int)",
        "public void PyramidSender.send()",
        "public int PyramidSender.receive(int)",
        "public int PyramidSender.pixel(int,int)",
        "public int PyramidSender.rank(int,int)",
        "public int PyramidSender.count(int,int)",
        "public int PyramidSender.sum()");

    public static void main(String[] args) {
        Check check = new Check("face");
        Class<?> type = PyramidSender.class;
        check.sentence("a public final class that stands alone");
        check.due("modifiers", type.getModifiers(), Modifier.PUBLIC | Modifier.FINAL);
        check.due("nested classes", type.getDeclaredClasses().length, 0);
        check.due("interfaces", type.getInterfaces().length, 0);

        check.sentence("the constructor");
        Constructor<?>[] constructors = type.getDeclaredConstructors();
        check.due("constructors", constructors.length, 1);
        check.due("constructor's modifiers", constructors[0].getModifiers(), Modifier.PUBLIC);
        check.due("constructor's parameters", constructors[0].getParameterCount(), 0);

        check.sentence("the methods, and none beside them");
        Set<String> seen = new TreeSet<>();
        for (Method method : type.getDeclaredMethods()) {
            if (!Modifier.isPrivate(method.getModifiers())) {
                seen.add(method.toString());
            }
        }
        check.due("methods " + seen + " are the document's", seen.equals(FACE) ? 1 : 0, 1);

        check.sentence("no private method with the name of a public one");
        for (Method method : type.getDeclaredMethods()) {
            boolean isPrivate = Modifier.isPrivate(method.getModifiers());
            boolean hasPublicName = FACE.stream().anyMatch(face -> face.contains("." + method.getName() + "("));
            check.due(method + " has a public one's name", hasPublicName ? 1 : 0, isPrivate ? 0 : 1);
        }

        check.sentence("no field that can be seen");
        for (Field field : type.getDeclaredFields()) {
            check.due(field + " is private", Modifier.isPrivate(field.getModifiers()) ? 1 : 0, 1);
        }
        check.end();
    }
}
