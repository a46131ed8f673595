import java.lang.reflect.Constructor;
import java.lang.reflect.Field;
import java.lang.reflect.Method;
import java.lang.reflect.Modifier;
import java.util.Arrays;
import java.util.Set;
import java.util.TreeSet;

/** The public face: each constant, the constructor and each method of the document, and nothing else. */
public final class FaceTest {
    private static final Due due = new Due("FaceTest");
    private static final String[] METHODS = {"facts(int)", "barred(int, int, boolean)", "line(int, int, int)",
        "except(int, int)", "repeal(int, boolean)", "about(int, int)", "holds(int, int)", "law(int, int)",
        "open(int)", "idle(int)", "moment()", "tell(int, int, int, int)", "known(int, int)", "proof(int, int)",
        "binds(int)", "verdict(int)", "rule(int, int)", "make(int)", "ofCase(int, int)", "turned()",
        "mend(int, int)", "goal(int)", "score(int, int)", "appeal(int, int)", "told(int)"};

    public static void main(String[] args) throws ReflectiveOperationException {
        constants();
        constructor();
        methods();
        state();
        classesInside();
        due.end();
    }

    private static void constants() throws ReflectiveOperationException {
        String[] names = {"UNKNOWN", "OUTSIDE", "STATE", "FULL", "NO", "NONE"};
        for (int i = 0; i < names.length; i++) {
            Field field = BallCourt.class.getField(names[i]);
            due.is(names[i], field.getInt(null), -1 - i);
            due.isTrue(names[i] + " is a constant", Modifier.isStatic(field.getModifiers())
                && Modifier.isFinal(field.getModifiers()) && field.getType() == int.class);
        }
        due.is("public fields", BallCourt.class.getFields().length, names.length);
    }

    private static void constructor() {
        Constructor<?>[] all = BallCourt.class.getDeclaredConstructors();
        due.is("constructors", all.length, 1);
        due.isTrue("the constructor is public, without parameters",
            Modifier.isPublic(all[0].getModifiers()) && all[0].getParameterCount() == 0);
        due.isTrue("the class is public and final", BallCourt.class.getModifiers() == (Modifier.PUBLIC | Modifier.FINAL));
        due.isTrue("the class extends nothing", BallCourt.class.getSuperclass() == Object.class
            && BallCourt.class.getInterfaces().length == 0);
    }

    private static String told(Method method) {
        StringBuilder text = new StringBuilder(method.getName()).append('(');
        for (Class<?> type : method.getParameterTypes()) {
            text.append(text.charAt(text.length() - 1) == '(' ? "" : ", ").append(type.getName());
        }
        return text.append(')').toString();
    }

    private static void methods() {
        Set<String> found = new TreeSet<>(), names = new TreeSet<>();
        for (Method method : BallCourt.class.getDeclaredMethods()) {
            if (!Modifier.isPrivate(method.getModifiers())) {
                found.add(told(method));
                names.add(method.getName());
                due.isTrue(told(method) + " is a public method that answers an int, and throws nothing",
                    method.getModifiers() == Modifier.PUBLIC && method.getReturnType() == int.class
                        && method.getExceptionTypes().length == 0);
            }
        }
        due.isTrue("the methods are " + found, found.equals(new TreeSet<>(Arrays.asList(METHODS))));
        for (Method method : BallCourt.class.getDeclaredMethods()) {
            due.isTrue("no private method is called " + method.getName(),
                !Modifier.isPrivate(method.getModifiers()) || !names.contains(method.getName()));
        }
    }

    private static void state() {
        for (Field field : BallCourt.class.getDeclaredFields()) {
            int is = field.getModifiers();
            due.isTrue(field.getName() + " is private or a constant",
                Modifier.isPrivate(is) || Modifier.isStatic(is) && Modifier.isFinal(is));
            due.isTrue(field.getName() + " is no static state", !Modifier.isStatic(is) || Modifier.isFinal(is));
        }
    }

    private static void classesInside() {
        for (Class<?> inside : BallCourt.class.getDeclaredClasses()) {
            int is = inside.getModifiers();
            due.isTrue(inside.getName() + " is not public, and static",
                !Modifier.isPublic(is) && !Modifier.isProtected(is) && Modifier.isStatic(is));
        }
    }
}
