import java.lang.reflect.Constructor;
import java.lang.reflect.Field;
import java.lang.reflect.Member;
import java.lang.reflect.Method;
import java.lang.reflect.Modifier;
import java.util.ArrayList;
import java.util.Arrays;
import java.util.List;
import java.util.TreeSet;

/** The class shows the document's public face, and nothing beside it that is not private. */
public final class FaceTest {
    private static final String[] FACE = {
        "public static final int OK = 0",
        "public static final int BAD = -1",
        "public static final int FULL = -2",
        "public static final int NIL_FAULT = -3",
        "public static final int DANGLING = -4",
        "public static final int NIL = 0",
        "public static final int LIVE = 1",
        "public static final int DEAD = 2",
        "public KeyHeap()",
        "public int make(int, int)",
        "public int dispose(int)",
        "public int setNil(int)",
        "public int copy(int, int)",
        "public int setNumber(int, int)",
        "public int setLink(int, int, int)",
        "public int follow(int, int, int)",
        "public int holds(int)",
        "public int number(int)",
        "public int linkHolds(int, int)",
        "public boolean same(int, int)",
        "public int live()",
        "public int reached()",
        "public int sweep()",
        "public int total()",
    };

    public static void main(String[] args) throws IllegalAccessException {
        Answers.due("the face", shownMembers(), new TreeSet<>(Arrays.asList(FACE)));
        Answers.due("the class", Modifier.toString(KeyHeap.class.getModifiers()), "public final");
        Answers.due("the superclass", KeyHeap.class.getSuperclass(), Object.class);
        Answers.due("interfaces", KeyHeap.class.getInterfaces().length, 0);
        Answers.due("nested classes", KeyHeap.class.getDeclaredClasses().length, 0);
        Answers.end();
    }

    private static TreeSet<String> shownMembers() throws IllegalAccessException {
        TreeSet<String> shown = new TreeSet<>();
        for (Field field : KeyHeap.class.getDeclaredFields()) {
            if (!isPrivate(field)) {
                shown.add(modifiers(field) + field.getType() + " " + field.getName() + valueOf(field));
            }
        }
        for (Constructor<?> constructor : KeyHeap.class.getDeclaredConstructors()) {
            if (!isPrivate(constructor)) {
                shown.add(modifiers(constructor) + "KeyHeap" + list(constructor.getParameterTypes()));
            }
        }
        for (Method method : KeyHeap.class.getDeclaredMethods()) {
            if (!isPrivate(method)) {
                shown.add(modifiers(method) + method.getReturnType() + " " + method.getName()
                        + list(method.getParameterTypes()));
            }
        }
        return shown;
    }

    private static boolean isPrivate(Member member) {
        return Modifier.isPrivate(member.getModifiers());
    }

    private static String modifiers(Member member) {
        return Modifier.toString(member.getModifiers()) + " ";
    }

    private static String valueOf(Field field) throws IllegalAccessException {
        return Modifier.isStatic(field.getModifiers()) ? " = " + field.get(null) : "";
    }

    private static String list(Class<?>[] types) {
        List<String> names = new ArrayList<>();
        for (Class<?> type : types) {
            names.add(type.getName());
        }
        return "(" + String.join(", ", names) + ")";
    }
}
