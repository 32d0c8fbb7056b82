import java.lang.reflect.Constructor;
import java.lang.reflect.Field;
import java.lang.reflect.Method;
import java.lang.reflect.Modifier;
import java.util.Set;
import java.util.TreeSet;

/** The public face: the document's members, all others private. */
public final class FaceTest {
    private static final Set<String> FACE = Set.of(
        "cost/3", "tie/5", "cut/1", "least/0", "lower/0", "upper/0", "with/2", "apart/2", "energy/1");

    public static void main(String[] args) {
        Check check = new Check();
        check.holds("the class is public and final",
            Modifier.isPublic(CutLabels.class.getModifiers()) && Modifier.isFinal(CutLabels.class.getModifiers()));
        Constructor<?>[] makers = CutLabels.class.getDeclaredConstructors();
        check.holds("one public constructor without arguments",
            makers.length == 1 && makers[0].getParameterCount() == 0 && Modifier.isPublic(makers[0].getModifiers()));
        check.holds("the class extends and implements nothing",
            CutLabels.class.getSuperclass() == Object.class && CutLabels.class.getInterfaces().length == 0);
        check.holds("no class is nested in it", CutLabels.class.getDeclaredClasses().length == 0);
        check.holds("it is in no package", CutLabels.class.getPackageName().isEmpty());
        methods(check);
        privateNames(check);
        for (Field field : CutLabels.class.getDeclaredFields()) {
            check.holds("field " + field.getName() + " is private", Modifier.isPrivate(field.getModifiers()));
        }
        check.done();
    }

    private static void methods(Check check) {
        Set<String> found = new TreeSet<>();
        for (Method method : CutLabels.class.getDeclaredMethods()) {
            if (Modifier.isPrivate(method.getModifiers())) {
                continue;
            }
            String name = method.getName() + "/" + method.getParameterCount();
            found.add(name);
            check.holds(name + " is public", Modifier.isPublic(method.getModifiers()));
            check.holds(name + " belongs to the object", !Modifier.isStatic(method.getModifiers()));
            check.holds(name + " declares no exception", method.getExceptionTypes().length == 0);
            check.holds(name + " answers an int", method.getReturnType() == int.class);
            for (Class<?> type : method.getParameterTypes()) {
                check.holds(name + " takes ints", type == int.class);
            }
        }
        check.holds("the methods " + found + " are those of the document", found.equals(FACE));
    }

    private static void privateNames(Check check) {
        for (Method method : CutLabels.class.getDeclaredMethods()) {
            if (Modifier.isPrivate(method.getModifiers())) {
                check.holds("private " + method.getName() + " has a name that is not of the face",
                    FACE.stream().noneMatch(member -> member.startsWith(method.getName() + "/")));
            }
        }
    }
}
