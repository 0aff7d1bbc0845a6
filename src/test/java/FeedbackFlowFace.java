import java.lang.reflect.Constructor;
import java.lang.reflect.Field;
import java.lang.reflect.Method;
import java.lang.reflect.Modifier;
import java.util.Arrays;
import java.util.Set;
import java.util.TreeSet;

// The class has the document's face, and no other member that can be seen from outside.
public final class FeedbackFlowFace {
    private static final String[] METHODS = {
        "vertex/3", "edge/2", "start/0", "put/2", "advance/1", "close/1", "deliver/1", "requests/0",
        "request/2", "ahead/1", "fire/1", "waiting/1", "message/3", "total/1", "points/0", "times/1"};
    private static final String[] CONSTANTS = {"BAD", "FULL", "NONE", "LATE", "ILL", "WAIT"};

    private static int wrong = 0;

    private static void check(String what, boolean holds) {
        if (!holds) {
            wrong++;
            System.out.println(what + " does not hold");
        }
    }

    private static void checkMethods() {
        Set<String> seen = new TreeSet<>();
        Set<String> publicNames = new TreeSet<>();
        for (String method : METHODS) {
            publicNames.add(method.substring(0, method.indexOf('/')));
        }
        for (Method method : FeedbackFlow.class.getDeclaredMethods()) {
            if (Modifier.isPrivate(method.getModifiers())) {
                check("another name than a public one for " + method, !publicNames.contains(method.getName()));
                continue;
            }
            seen.add(method.getName() + "/" + method.getParameterCount());
            check("public and of the object: " + method,
                Modifier.isPublic(method.getModifiers()) && !Modifier.isStatic(method.getModifiers()));
            check("int answer of " + method, method.getReturnType() == int.class);
            for (Class<?> parameter : method.getParameterTypes()) {
                check("int parameters of " + method, parameter == int.class);
            }
        }
        check("the document's methods: " + seen, seen.equals(new TreeSet<>(Arrays.asList(METHODS))));
    }

    private static void checkFields() {
        Set<String> seen = new TreeSet<>();
        for (Field field : FeedbackFlow.class.getDeclaredFields()) {
            if (Modifier.isStatic(field.getModifiers())) {
                check("final: " + field, Modifier.isFinal(field.getModifiers()));
            }
            if (Modifier.isPrivate(field.getModifiers())) {
                continue;
            }
            seen.add(field.getName());
            check("a public int constant: " + field, Modifier.isPublic(field.getModifiers())
                && Modifier.isStatic(field.getModifiers()) && field.getType() == int.class);
        }
        check("the document's constants: " + seen, seen.equals(new TreeSet<>(Arrays.asList(CONSTANTS))));
    }

    private static void checkClass() {
        int modifiers = FeedbackFlow.class.getModifiers();
        check("a public final class", Modifier.isPublic(modifiers) && Modifier.isFinal(modifiers));
        check("no package", FeedbackFlow.class.getPackageName().isEmpty());
        Constructor<?>[] constructors = FeedbackFlow.class.getDeclaredConstructors();
        check("one constructor", constructors.length == 1);
        check("a public one without parameters", Modifier.isPublic(constructors[0].getModifiers())
            && constructors[0].getParameterCount() == 0);
        for (Class<?> inside : FeedbackFlow.class.getDeclaredClasses()) {
            int seen = inside.getModifiers();
            check("static, and not to be seen: " + inside, Modifier.isStatic(seen)
                && !Modifier.isPublic(seen) && !Modifier.isProtected(seen));
        }
    }

    public static void main(String[] args) {
        checkClass();
        checkFields();
        checkMethods();
        System.out.println(wrong == 0 ? "the face is as due" : wrong + " things are not as due");
        if (wrong != 0) {
            System.exit(1);
        }
    }
}
