import java.lang.reflect.Constructor;
import java.lang.reflect.Field;
import java.lang.reflect.Method;
import java.lang.reflect.Modifier;
import java.util.Arrays;
import java.util.Set;
import java.util.TreeSet;

/** The public face: what the document names, and nothing else. */
public final class FaceTest {
    private static final String[] METHODS = {"post 3", "hour 0", "setRange 3", "set 2", "assign 2", "goOut 1",
        "comeBack 1", "take 1", "restore 1", "undo 0", "append 1", "clearText 0", "setRanges 0", "count 1", "letter 2",
        "frame 2", "carrier 2", "rounds 2", "stretch 2", "inBag 1", "inFrame 2", "clearIn 0", "wouldOverflow 1",
        "bestCarrier 1", "wouldDeliver 1"};
    private static final String[] CONSTANTS = {"INVALID_ARGUMENT", "ILLEGAL_STATE", "CAPACITY_EXCEEDED", "NONE"};

    private FaceTest() {
    }

    public static void main(String[] args) {
        Check c = new Check("FaceTest");
        int modifiers = WalkFrames.class.getModifiers();
        c.due("public", Modifier.isPublic(modifiers) ? 1 : 0, 1);
        c.due("final", Modifier.isFinal(modifiers) ? 1 : 0, 1);
        methods(c);
        constants(c);
        classesInside(c);
        c.end();
    }

    private static void methods(Check c) {
        Set<String> open = new TreeSet<>();
        Set<String> names = new TreeSet<>();
        for (Method method : WalkFrames.class.getDeclaredMethods()) {
            if (Modifier.isPublic(method.getModifiers())) {
                open.add(method.getName() + " " + method.getParameterCount());
                names.add(method.getName());
                c.due(method.getName() + " is of the object", Modifier.isStatic(method.getModifiers()) ? 1 : 0, 0);
                c.same("kind of " + method.getName(), method.getReturnType().getName(), "int");
                for (Class<?> kind : method.getParameterTypes()) {
                    c.same("argument of " + method.getName(), kind.getName(), "int");
                }
            }
        }
        c.same("public methods", open.toString(), new TreeSet<>(Arrays.asList(METHODS)).toString());
        for (Method method : WalkFrames.class.getDeclaredMethods()) {
            if (!Modifier.isPublic(method.getModifiers())) {
                c.due(method.getName() + " is private", Modifier.isPrivate(method.getModifiers()) ? 1 : 0, 1);
                c.due(method.getName() + " has no public name", names.contains(method.getName()) ? 1 : 0, 0);
            }
        }
        Constructor<?>[] made = WalkFrames.class.getDeclaredConstructors();
        c.due("constructors", made.length, 1);
        c.due("it is public", Modifier.isPublic(made[0].getModifiers()) ? 1 : 0, 1);
        c.due("its arguments", made[0].getParameterCount(), 0);
    }

    private static void constants(Check c) {
        Set<String> open = new TreeSet<>();
        for (Field field : WalkFrames.class.getDeclaredFields()) {
            int modifiers = field.getModifiers();
            if (Modifier.isPrivate(modifiers)) {
                continue;
            }
            open.add(field.getName());
            c.due(field.getName() + " is public", Modifier.isPublic(modifiers) ? 1 : 0, 1);
            c.due(field.getName() + " is a constant",
                    Modifier.isStatic(modifiers) && Modifier.isFinal(modifiers) ? 1 : 0, 1);
            c.same("kind of " + field.getName(), field.getType().getName(), "int");
        }
        c.same("constants", open.toString(), new TreeSet<>(Arrays.asList(CONSTANTS)).toString());
    }

    private static void classesInside(Check c) {
        Class<?>[] inside = WalkFrames.class.getDeclaredClasses();
        c.due("at most twelve classes", inside.length < 12 ? 1 : 0, 1);
        for (Class<?> one : inside) {
            int modifiers = one.getModifiers();
            c.due(one.getName() + " is static", Modifier.isStatic(modifiers) ? 1 : 0, 1);
            c.due(one.getName() + " is not open",
                    Modifier.isPublic(modifiers) || Modifier.isProtected(modifiers) ? 1 : 0, 0);
            int fields = 0;
            for (Field field : one.getDeclaredFields()) {
                boolean fixed = Modifier.isStatic(field.getModifiers());
                fields += fixed ? 0 : 1;
                c.due(field.getName() + " is final if static",
                        !fixed || Modifier.isFinal(field.getModifiers()) ? 1 : 0, 1);
            }
            c.due(one.getName() + " has at most twenty fields", fields <= 20 ? 1 : 0, 1);
        }
    }
}
