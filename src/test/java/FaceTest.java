import java.lang.reflect.Constructor;
import java.lang.reflect.Field;
import java.lang.reflect.Method;
import java.lang.reflect.Modifier;
import java.util.Set;
import java.util.TreeSet;

/** The public face is the document's, and nothing else can be seen from outside. */
public final class FaceTest {
    private static final Check CHECK = new Check("FaceTest");
    private static final Set<String> FACE = Set.of(
            "int feed(int,int,int,int,int)", "int back(int)", "int read()", "int place()",
            "boolean fates(int)", "boolean fate(int,int)", "int task(int,int)", "int run(int)",
            "int cell(int,int)", "int vehicle(int,int)", "int trip(int,int)",
            "int plan(int,int,int)", "int told(int,int)", "int count(int)");

    public static void main(String[] args) {
        CHECK.about("The public face");
        CHECK.due("NONE", FleetYard.NONE, -1);
        CHECK.due("public and final", FleetYard.class.getModifiers(),
                Modifier.PUBLIC | Modifier.FINAL);
        methods();
        fields();
        constructors();
        for (Class<?> inner : FleetYard.class.getDeclaredClasses()) {
            CHECK.due("static: " + inner, Modifier.isStatic(inner.getModifiers()), true);
        }
        CHECK.end();
    }

    private static void methods() {
        Set<String> seen = new TreeSet<>();
        Set<String> names = new TreeSet<>();
        for (String method : FACE) {
            names.add(method.substring(method.indexOf(' ') + 1, method.indexOf('(')));
        }
        for (Method method : FleetYard.class.getDeclaredMethods()) {
            if (Modifier.isPrivate(method.getModifiers())) {
                CHECK.due("a name of its own: " + method, names.contains(method.getName()), false);
            } else {
                seen.add(shown(method));
            }
        }
        CHECK.due("the methods are those of the document: " + seen, seen.equals(FACE), true);
    }

    private static String shown(Method method) {
        StringBuilder text = new StringBuilder();
        text.append(method.getReturnType()).append(' ').append(method.getName()).append('(');
        for (int i = 0; i < method.getParameterCount(); i++) {
            text.append(i == 0 ? "" : ",").append(method.getParameterTypes()[i]);
        }
        return text.append(')').toString();
    }

    private static void fields() {
        for (Field field : FleetYard.class.getDeclaredFields()) {
            boolean isFace = field.getName().equals("NONE");
            CHECK.due("private: " + field, Modifier.isPrivate(field.getModifiers()), !isFace);
            if (Modifier.isStatic(field.getModifiers())) {
                CHECK.due("final: " + field, Modifier.isFinal(field.getModifiers()), true);
            }
        }
    }

    private static void constructors() {
        Constructor<?>[] all = FleetYard.class.getDeclaredConstructors();
        CHECK.due("one constructor", all.length, 1);
        CHECK.due("without parameters", all[0].getParameterCount(), 0);
    }
}
