import java.lang.reflect.Constructor;
import java.lang.reflect.Field;
import java.lang.reflect.Method;
import java.lang.reflect.Modifier;
import java.util.Arrays;
import java.util.Set;
import java.util.TreeSet;

/** The public face: every constant, constructor and method of the document, and no other member that is seen. */
public final class FaceTest {
    private static final String[] FACE = {
        "int feed(int, int, int, int, int)", "int town(int) I", "int law(int) I", "int work(int) I", "int book(int) I",
        "int fault()", "int undo()", "int told(int) I", "int place(int, int) NI", "int road(int, int) NI",
        "int thing(int, int) NI", "int finder(int, int) NI", "int duty(int, int) N",
        "int would(int, int, int, int, int, int, int, int) I", "boolean can(int, int) N", "int ahead(int, int) I",
        "int far(int, int) N", "int round(int) N", "int meet(int) I", "int reach(int) N", "int settle(int) N",
        "int parts(int, int) NI", "int fits(int) I", "int look(int) I", "long pins(int, int, int, int) I",
        "int takes(int, int, int) I", "int sixpence(int, int, int) NI", "int greatest(int) I", "int deepest(int) I",
        "int empty()", "int lucky()", "int sound(int) I", "int way(int, int) N", "int burden(int) I",
        "int near(int, int) NI", "int enough(int) N", "int year(int, int, int, int) I",
        "int span(int, int, int, int, int, int) I", "int image()", "int restore()", "int status(int)", "int count(int)"
    };

    public static void main(String[] args) {
        Class<?> face = EvenFinders.class;
        Check.is("public and final", face.getModifiers() & (Modifier.PUBLIC | Modifier.FINAL),
                Modifier.PUBLIC | Modifier.FINAL);
        Set<String> due = new TreeSet<>(Arrays.asList(FACE));
        Set<String> found = new TreeSet<>();
        Set<String> names = new TreeSet<>();
        for (Method method : face.getDeclaredMethods()) {
            if (!Modifier.isPrivate(method.getModifiers())) {
                found.add(told(method));
                names.add(method.getName());
            }
        }
        Check.is("methods " + differing(due, found), differing(due, found).size(), 0);
        for (Method method : face.getDeclaredMethods()) {
            if (Modifier.isPrivate(method.getModifiers())) {
                Check.is("private " + method, names.contains(method.getName()) ? 1 : 0, 0);
            }
        }
        for (Field field : face.getDeclaredFields()) {
            boolean isNone = field.getName().equals("NONE");
            Check.is("field " + field, Modifier.isPrivate(field.getModifiers()) ? 0 : 1, isNone ? 1 : 0);
            if (Modifier.isStatic(field.getModifiers())) {
                Check.is("constant " + field, Modifier.isFinal(field.getModifiers()) ? 1 : 0, 1);
            }
        }
        for (Constructor<?> made : face.getDeclaredConstructors()) {
            Check.is("constructor " + made, made.getParameterCount(), 0);
        }
        for (Class<?> inside : face.getDeclaredClasses()) {
            Check.is("class " + inside, Modifier.isStatic(inside.getModifiers()) ? 1 : 0, 1);
            Check.is("class " + inside, Modifier.isPublic(inside.getModifiers()) ? 1 : 0, 0);
        }
        Check.end("FaceTest");
    }

    private static String told(Method method) {
        StringBuilder text = new StringBuilder(method.getReturnType().getName() + " " + method.getName() + "(");
        for (int i = 0; i < method.getParameterCount(); i++) {
            text.append(i == 0 ? "" : ", ").append(method.getParameterTypes()[i].getName());
        }
        text.append(")");
        String thrown = "";
        for (Class<?> each : method.getExceptionTypes()) {
            thrown += each.getSimpleName().charAt(0);
        }
        return text + (thrown.isEmpty() ? "" : " " + thrown);
    }

    private static Set<String> differing(Set<String> due, Set<String> found) {
        Set<String> all = new TreeSet<>(due);
        all.addAll(found);
        Set<String> both = new TreeSet<>(due);
        both.retainAll(found);
        all.removeAll(both);
        return all;
    }
}
