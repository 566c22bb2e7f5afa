import java.io.IOException;
import java.lang.reflect.Constructor;
import java.lang.reflect.Field;
import java.lang.reflect.Method;
import java.lang.reflect.Modifier;
import java.nio.file.Files;
import java.nio.file.Path;
import java.util.ArrayList;
import java.util.List;
import java.util.Set;
import java.util.TreeSet;

/** The public face: what the document lists and no more, and no private method with a public one's name. */
public final class FaceTest {
    private static final Checks CHECKS = new Checks("FaceTest");
    private static final String CONSTANT = "public static final int NONE = -1";
    private static final String CONSTRUCTOR = "public OneTime()";

    public static void main(String[] args) throws NoSuchFieldException, IOException {
        List<String> face = face();
        source(face);
        methods(face);
        fields();
        CHECKS.due("final and public", OneTime.class.getModifiers(), Modifier.PUBLIC | Modifier.FINAL);
        Constructor<?>[] made = OneTime.class.getDeclaredConstructors();
        CHECKS.due("one constructor", made.length, 1);
        CHECKS.due("public, without parameters", Modifier.isPublic(made[0].getModifiers()) && made[0].getParameterCount() == 0,
            true);
        CHECKS.due("the constructor's exceptions", made[0].getExceptionTypes().length, 0);
        CHECKS.finish();
    }

    /** The members as the document writes them, without the mark behind each. */
    private static List<String> face() {
        String text = new Document().text("The public face");
        CHECKS.due("the class of the document", text.contains("public final class OneTime {"), true);
        List<String> face = new ArrayList<>();
        for (String member : text.substring(text.indexOf('{') + 1, text.indexOf('}')).split(";")) {
            if (!member.isBlank()) {
                face.add(member.trim());
            }
        }
        CHECKS.due("the constant stands first", face.get(0).equals(CONSTANT), true);
        CHECKS.due("then the constructor", face.get(1).equals(CONSTRUCTOR), true);
        return face;
    }

    /** In the file each member is written as in the document: parameters bear the same names, exceptions are told. */
    private static void source(List<String> face) throws IOException {
        String text = Files.readString(Path.of("src/main/java/OneTime.java")).replaceAll("\\s+", " ");
        for (String member : face) {
            String mark = member.contains("(") ? " {" : ";";
            CHECKS.due("as the document writes it: " + member, text.contains(" " + member + mark), true);
        }
        CHECKS.due("public members and the class itself", text.split("\\bpublic ", -1).length - 1, face.size() + 1);
    }

    private static void methods(List<String> face) {
        Set<String> missing = new TreeSet<>();
        for (String member : face) {
            if (!member.equals(CONSTANT) && !member.equals(CONSTRUCTOR)) {
                missing.add(member.replaceFirst("^public ", "").replaceAll("(int|boolean) \\w+(?=[,)])", "$1").replace(", ", ","));
            }
        }
        CHECKS.due("methods of the document", missing.size(), 26);
        Set<String> names = new TreeSet<>();
        for (Method method : OneTime.class.getDeclaredMethods()) {
            if (!Modifier.isPrivate(method.getModifiers())) {
                CHECKS.due("a method of the face: " + signature(method), missing.remove(signature(method)), true);
                CHECKS.due("public and no more: " + method, method.getModifiers(), Modifier.PUBLIC);
                names.add(method.getName());
            }
        }
        CHECKS.due("missing " + missing, missing.size(), 0);
        for (Method method : OneTime.class.getDeclaredMethods()) {
            boolean hidden = Modifier.isPrivate(method.getModifiers());
            CHECKS.due("a name of its own: " + method, hidden && names.contains(method.getName()), false);
        }
    }

    private static void fields() throws NoSuchFieldException {
        for (Field field : OneTime.class.getDeclaredFields()) {
            boolean constant = field.getName().equals("NONE");
            CHECKS.due("private but for NONE: " + field, Modifier.isPrivate(field.getModifiers()), !constant);
            CHECKS.due("static ones are final: " + field,
                Modifier.isStatic(field.getModifiers()) && !Modifier.isFinal(field.getModifiers()), false);
        }
        int none = OneTime.class.getDeclaredField("NONE").getModifiers();
        CHECKS.due("NONE", none, Modifier.PUBLIC | Modifier.STATIC | Modifier.FINAL);
        CHECKS.due("NONE is -1", OneTime.NONE, -1);
    }

    private static String signature(Method method) {
        StringBuilder text = new StringBuilder(method.getReturnType() + " " + method.getName() + "(");
        for (Class<?> parameter : method.getParameterTypes()) {
            text.append(text.charAt(text.length() - 1) == '(' ? "" : ",").append(parameter);
        }
        text.append(")");
        for (Class<?> thrown : method.getExceptionTypes()) {
            text.append(" throws ").append(thrown.getSimpleName());
        }
        return text.toString();
    }
}
