import java.lang.reflect.Constructor;
import java.lang.reflect.Executable;
import java.lang.reflect.Field;
import java.lang.reflect.Method;
import java.lang.reflect.Modifier;
import java.util.Arrays;
import java.util.TreeSet;

/** The public face and the constant are those of the document, and nothing else can be seen. */
public final class FaceTest {
    public static void main(String[] args) {
        Due due = new Due();
        due.answer("NONE", LogCleaner.NONE, -1);
        due.text("the class", Modifier.toString(LogCleaner.class.getModifiers()), "public final");
        due.text("what can be seen", seen().toString(), face().toString());
        due.text("open classes inside", openClasses().toString(), "[]");
        due.text("what it extends", LogCleaner.class.getGenericSuperclass().getTypeName(), "java.lang.Object");
        due.answer("what it implements", LogCleaner.class.getInterfaces().length, 0);
        due.text("private methods with a public name", shadowing().toString(), "[]");
        due.end();
    }

    private static TreeSet<String> face() {
        return new TreeSet<>(Arrays.asList(
            "public static final int NONE",
            "public LogCleaner() throws ",
            "public int record(long,int,boolean,long,int) throws IllegalArgumentException,IllegalStateException",
            "public int close(int) throws IllegalArgumentException,IllegalStateException",
            "public int clean(int) throws IllegalArgumentException",
            "public int drop(int) throws IllegalArgumentException",
            "public int count(int) throws IllegalArgumentException",
            "public int batch(int,int) throws IllegalArgumentException",
            "public long told(int,int) throws IllegalArgumentException",
            "public int latest(long,int) throws IllegalArgumentException"));
    }

    private static TreeSet<String> seen() {
        TreeSet<String> seen = new TreeSet<>();
        for (Field field : LogCleaner.class.getDeclaredFields()) {
            if (!Modifier.isPrivate(field.getModifiers())) {
                seen.add(Modifier.toString(field.getModifiers()) + " " + field.getType() + " " + field.getName());
            }
        }
        for (Constructor<?> made : LogCleaner.class.getDeclaredConstructors()) {
            seen.add(Modifier.toString(made.getModifiers()) + " " + made.getName() + rest(made));
        }
        for (Method method : LogCleaner.class.getDeclaredMethods()) {
            if (!Modifier.isPrivate(method.getModifiers())) {
                seen.add(Modifier.toString(method.getModifiers()) + " " + method.getReturnType() + " "
                    + method.getName() + rest(method));
            }
        }
        return seen;
    }

    private static String rest(Executable called) {
        return "(" + names(called.getParameterTypes()) + ") throws " + names(called.getExceptionTypes());
    }

    /** Only the document's class itself may be seen: those inside it are private or package-visible. */
    private static TreeSet<String> openClasses() {
        TreeSet<String> open = new TreeSet<>();
        for (Class<?> inside : LogCleaner.class.getDeclaredClasses()) {
            int modifiers = inside.getModifiers();
            if (Modifier.isPublic(modifiers) || Modifier.isProtected(modifiers) || !Modifier.isStatic(modifiers)) {
                open.add(inside.getName());
            }
        }
        return open;
    }

    private static TreeSet<String> shadowing() {
        TreeSet<String> open = new TreeSet<>();
        for (Method method : LogCleaner.class.getMethods()) {
            open.add(method.getName());
        }
        TreeSet<String> shadowing = new TreeSet<>();
        for (Method method : LogCleaner.class.getDeclaredMethods()) {
            if (Modifier.isPrivate(method.getModifiers()) && open.contains(method.getName())) {
                shadowing.add(method.getName());
            }
        }
        return shadowing;
    }

    private static String names(Class<?>[] types) {
        StringBuilder text = new StringBuilder();
        for (Class<?> type : types) {
            text.append(text.length() == 0 ? "" : ",").append(type.getSimpleName());
        }
        return text.toString();
    }
}
