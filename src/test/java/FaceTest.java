import java.lang.reflect.Constructor;
import java.lang.reflect.Field;
import java.lang.reflect.Method;
import java.lang.reflect.Modifier;
import java.util.Arrays;
import java.util.TreeSet;

/** The public face and the constant are those of the document, and nothing else can be seen. */
public final class FaceTest {
    public static void main(String[] args) {
        Due due = new Due();
        due.answer("NONE", LogCleaner.NONE, -1);
        due.text("the class", Modifier.toString(LogCleaner.class.getModifiers()), "public final");
        due.text("what can be seen", seen().toString(), face().toString());
        due.text("private methods with a public name", shadowing().toString(), "[]");
        due.end();
    }

    private static TreeSet<String> face() {
        return new TreeSet<>(Arrays.asList(
            "public static final int NONE",
            "LogCleaner()",
            "int record(long,int,boolean,long,int) throws IllegalArgumentException,IllegalStateException",
            "int close(int) throws IllegalArgumentException,IllegalStateException",
            "int clean(int) throws IllegalArgumentException",
            "int drop(int) throws IllegalArgumentException",
            "int count(int) throws IllegalArgumentException",
            "int batch(int,int) throws IllegalArgumentException",
            "long told(int,int) throws IllegalArgumentException",
            "int latest(long,int) throws IllegalArgumentException"));
    }

    private static TreeSet<String> seen() {
        TreeSet<String> seen = new TreeSet<>();
        for (Field field : LogCleaner.class.getDeclaredFields()) {
            if (!Modifier.isPrivate(field.getModifiers())) {
                seen.add(Modifier.toString(field.getModifiers()) + " " + field.getType() + " " + field.getName());
            }
        }
        for (Constructor<?> made : LogCleaner.class.getDeclaredConstructors()) {
            seen.add(made.getName() + "(" + names(made.getParameterTypes()) + ")");
        }
        for (Method method : LogCleaner.class.getDeclaredMethods()) {
            if (!Modifier.isPrivate(method.getModifiers())) {
                seen.add(method.getReturnType() + " " + method.getName() + "(" + names(method.getParameterTypes())
                    + ") throws " + names(method.getExceptionTypes()));
            }
        }
        return seen;
    }

    private static TreeSet<String> shadowing() {
        TreeSet<String> open = new TreeSet<>();
        for (Method method : LogCleaner.class.getMethods()) {
            open.add(method.getName());
        }
        TreeSet<String> shadowing = new TreeSet<>();
        for (Method method : LogCleaner.class.getDeclaredMethods()) {
            if (Modifier.isPrivate(method.getModifiers()) && open.contains(method.getName())) {
                shadowing.add(method.getName());
            }
        }
        return shadowing;
    }

    private static String names(Class<?>[] types) {
        StringBuilder text = new StringBuilder();
        for (Class<?> type : types) {
            text.append(text.length() == 0 ? "" : ",").append(type.getSimpleName());
        }
        return text.toString();
    }
}
