import java.lang.reflect.Constructor;
import java.lang.reflect.Field;
import java.lang.reflect.Method;
import java.lang.reflect.Modifier;
import java.util.NoSuchElementException;
import java.util.Set;
import java.util.TreeSet;

/** The public face: what the document lists and no more, and no private method with a public one's name. */
public final class FaceTest {
    private static final Checks CHECKS = new Checks("FaceTest");
    private static final String[] FACE = {"int town(int)", "int clock(int,int,int,int)", "int untell()", "int count(int)",
        "int read(int,int)", "int when(int,int)", "int turned(int,int,int)", "int unlike(int,int)", "int one(int)",
        "int station(int,int)", "int train(boolean,int,int,int)", "int leaves(int,int)", "boolean delay(int,int)",
        "int meet()", "int free()", "int close()", "int sign(int)", "boolean end(int)", "int law(int,int)",
        "int judged(int,int,int)", "int late(int,int,int,int,int,int)", "int tower(int,int,int)", "int error(int,int)",
        "int set(int,int)", "int round(int,int)", "int row(int)"};
    private static final Set<String> THROWING = Set.of("read", "turned", "judged", "error", "set", "row");

    public static void main(String[] args) throws NoSuchFieldException {
        Set<String> missing = new TreeSet<>(Set.of(FACE));
        Set<String> names = new TreeSet<>();
        for (Method method : OneTime.class.getDeclaredMethods()) {
            if (!Modifier.isPrivate(method.getModifiers())) {
                CHECKS.due("a method of the face: " + signature(method), missing.remove(signature(method)), true);
                CHECKS.due("public: " + method, Modifier.isPublic(method.getModifiers()), true);
                CHECKS.due("static: " + method, Modifier.isStatic(method.getModifiers()), false);
                thrown(method);
                names.add(method.getName());
            }
        }
        CHECKS.due("missing " + missing, missing.size(), 0);
        for (Method method : OneTime.class.getDeclaredMethods()) {
            boolean hidden = Modifier.isPrivate(method.getModifiers());
            CHECKS.due("a name of its own: " + method, hidden && names.contains(method.getName()), false);
        }
        fields();
        CHECKS.due("final", Modifier.isFinal(OneTime.class.getModifiers()), true);
        Constructor<?>[] made = OneTime.class.getDeclaredConstructors();
        CHECKS.due("one constructor", made.length, 1);
        CHECKS.due("public, without parameters", Modifier.isPublic(made[0].getModifiers()) && made[0].getParameterCount() == 0,
            true);
        CHECKS.due("the constructor's exceptions", made[0].getExceptionTypes().length, 0);
        CHECKS.finish();
    }

    private static void fields() throws NoSuchFieldException {
        for (Field field : OneTime.class.getDeclaredFields()) {
            boolean constant = field.getName().equals("NONE");
            CHECKS.due("private but for NONE: " + field, Modifier.isPrivate(field.getModifiers()), !constant);
            CHECKS.due("static ones are final: " + field,
                Modifier.isStatic(field.getModifiers()) && !Modifier.isFinal(field.getModifiers()), false);
        }
        int none = OneTime.class.getDeclaredField("NONE").getModifiers();
        CHECKS.due("NONE", none, Modifier.PUBLIC | Modifier.STATIC | Modifier.FINAL);
        CHECKS.due("NONE is -1", OneTime.NONE, -1);
    }

    /** A call says that it throws where the document's face does. */
    private static void thrown(Method method) {
        Class<?>[] told = method.getExceptionTypes();
        boolean throwing = THROWING.contains(method.getName());
        CHECKS.due("exceptions of " + method, told.length, throwing ? 1 : 0);
        if (throwing && told.length == 1) {
            CHECKS.due("NoSuchElementException: " + method, told[0] == NoSuchElementException.class, true);
        }
    }

    private static String signature(Method method) {
        StringBuilder text = new StringBuilder(method.getReturnType() + " " + method.getName() + "(");
        for (Class<?> parameter : method.getParameterTypes()) {
            text.append(text.charAt(text.length() - 1) == '(' ? "" : ",").append(parameter);
        }
        return text.append(")").toString();
    }
}
