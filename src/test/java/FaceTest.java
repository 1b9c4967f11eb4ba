import java.lang.reflect.Constructor;
import java.lang.reflect.Field;
import java.lang.reflect.Method;
import java.lang.reflect.Modifier;
import java.util.Arrays;
import java.util.Set;
import java.util.TreeSet;

/** The public face of the document, and nothing more of it. */
public final class FaceTest {
    private static final String[] METHODS = {
        "feed(int,long)", "square()", "fault()", "told(int)", "bell(int,int)", "spot(int,int)", "beggar(int,int)",
        "hat(int,int)", "shadow(int,int,int)", "go(int,int)", "lend(int,int)", "law(int)", "ring(int)", "day(int)",
        "drift(int)", "standing(int,int,int)", "hats(int,int)", "giant(int,int,int,int)", "peace(int,int)",
        "bread(int,int)", "best(int,int)", "tell(int,int,int,int)", "fits(int)", "write(int,int,int)", "tear()",
        "judge()", "seed(int)", "keep(int)", "goBack(int)"};

    public static void main(String[] args) throws IllegalAccessException {
        Class<?> face = ShadowAlms.class;
        Due.is("public and final", face.getModifiers(), Modifier.PUBLIC | Modifier.FINAL);
        methods(face);
        fields(face);
        Constructor<?>[] made = face.getDeclaredConstructors();
        Due.is("constructors", made.length, 1);
        Due.is("constructor is public", made[0].getModifiers(), Modifier.PUBLIC);
        Due.is("constructor's parameters", made[0].getParameterCount(), 0);
        for (Class<?> inside : face.getDeclaredClasses()) {
            Due.is(inside.getName() + " is static", inside.getModifiers() & Modifier.STATIC, Modifier.STATIC);
            Due.is(inside.getName() + " is not public", inside.getModifiers() & (Modifier.PUBLIC | Modifier.PROTECTED), 0);
        }
        constants();
        Due.end();
    }

    private static void methods(Class<?> face) {
        Set<String> due = new TreeSet<>(Arrays.asList(METHODS));
        Set<String> names = new TreeSet<>();
        for (String method : METHODS) {
            names.add(method.substring(0, method.indexOf('(')));
        }
        for (Method method : face.getDeclaredMethods()) {
            StringBuilder told = new StringBuilder(method.getName()).append('(');
            for (Class<?> type : method.getParameterTypes()) {
                told.append(told.charAt(told.length() - 1) == '(' ? "" : ",").append(type.getName());
            }
            String name = told.append(')').toString();
            if (Modifier.isPrivate(method.getModifiers())) {
                Due.is(name + " bears a public name", names.contains(method.getName()) ? 1 : 0, 0);
            } else {
                Due.is(name + " is in the document", due.remove(name) ? 1 : 0, 1);
                Due.is(name + " is public", method.getModifiers(), Modifier.PUBLIC);
                Due.is(name + " answers int", method.getReturnType() == int.class ? 1 : 0, 1);
            }
        }
        Due.is("missing: " + due, due.size(), 0);
    }

    private static void fields(Class<?> face) {
        Set<String> due = new TreeSet<>(Arrays.asList("NONE", "UNKNOWN", "OUTSIDE", "NOT", "FULL"));
        for (Field field : face.getDeclaredFields()) {
            if (!Modifier.isPrivate(field.getModifiers())) {
                Due.is(field.getName() + " is in the document", due.remove(field.getName()) ? 1 : 0, 1);
                Due.is(field.getName(), field.getModifiers(), Modifier.PUBLIC | Modifier.STATIC | Modifier.FINAL);
            }
        }
        Due.is("missing: " + due, due.size(), 0);
    }

    private static void constants() {
        Due.is("NONE", ShadowAlms.NONE, -1);
        Due.is("UNKNOWN", ShadowAlms.UNKNOWN, -1000000001);
        Due.is("OUTSIDE", ShadowAlms.OUTSIDE, -1000000002);
        Due.is("NOT", ShadowAlms.NOT, -1000000003);
        Due.is("FULL", ShadowAlms.FULL, -1000000004);
    }
}
