import java.lang.reflect.Constructor;
import java.lang.reflect.Field;
import java.lang.reflect.Method;
import java.lang.reflect.Modifier;
import java.util.Arrays;
import java.util.TreeSet;

/** The class has the face of the document, and shows no member beside it. */
public final class FaceTest {
    private static final String[] METHODS = {
        "int draft(int, int, long)", "int offer(int)", "long check(int, int)",
        "int set(int, int)", "int tick(int)", "int settle(int)", "int voids(int)",
        "int bend(int, int, int, int)", "int lose(int, int)", "int twice(int, int)",
        "int wire(int, int, int)", "int end(int, int)", "int up(int, int)",
        "int upByte(int, int, int)", "int count(int)", "int keep(int)", "int again(int)"};

    private FaceTest() {
    }

    public static void main(String[] args) {
        Due.is("BAD", ReplayLink.BAD, -1);
        Due.is("NO", ReplayLink.NO, -2);
        Due.is("FULL", ReplayLink.FULL, -3);
        Due.is("NONE", ReplayLink.NONE, -4);
        int modifiers = ReplayLink.class.getModifiers();
        holds("the class is public and final",
                Modifier.isPublic(modifiers) && Modifier.isFinal(modifiers));
        methodsAreTheDocuments();
        constantsAreTheDocuments();
        constructorIsTheDocuments();
        Due.finish();
    }

    private static void methodsAreTheDocuments() {
        TreeSet<String> shown = new TreeSet<>();
        TreeSet<String> names = new TreeSet<>();
        for (Method method : ReplayLink.class.getDeclaredMethods()) {
            if (Modifier.isPublic(method.getModifiers())) {
                shown.add(told(method));
                names.add(method.getName());
            }
        }
        holds("public methods " + shown, shown.equals(new TreeSet<>(Arrays.asList(METHODS))));
        for (Method method : ReplayLink.class.getDeclaredMethods()) {
            if (!Modifier.isPublic(method.getModifiers()) && !method.isSynthetic()) {
                holds(method.getName() + " is private", Modifier.isPrivate(method.getModifiers()));
                holds(method.getName() + " is no public name", !names.contains(method.getName()));
            }
        }
    }

    private static String told(Method method) {
        StringBuilder text = new StringBuilder();
        text.append(method.getReturnType().getName()).append(' ').append(method.getName());
        text.append('(');
        String between = "";
        for (Class<?> type : method.getParameterTypes()) {
            text.append(between).append(type.getName());
            between = ", ";
        }
        return text.append(')').toString();
    }

    private static void constantsAreTheDocuments() {
        TreeSet<String> shown = new TreeSet<>();
        for (Field field : ReplayLink.class.getDeclaredFields()) {
            if (!Modifier.isPrivate(field.getModifiers())) {
                shown.add(field.toString());
            }
        }
        TreeSet<String> due = new TreeSet<>();
        for (String name : new String[] {"BAD", "NO", "FULL", "NONE"}) {
            due.add("public static final int ReplayLink." + name);
        }
        holds("constants " + shown, shown.equals(due));
    }

    private static void constructorIsTheDocuments() {
        Constructor<?>[] all = ReplayLink.class.getDeclaredConstructors();
        holds("one public constructor without parameters", all.length == 1
                && all[0].getParameterCount() == 0 && Modifier.isPublic(all[0].getModifiers()));
    }

    private static void holds(String what, boolean is) {
        Due.is(what, is ? 1 : 0, 1);
    }
}
