import java.lang.reflect.Constructor;
import java.lang.reflect.Field;
import java.lang.reflect.Method;
import java.lang.reflect.Modifier;
import java.util.ArrayList;
import java.util.Arrays;
import java.util.List;
import java.util.TreeSet;

/** The class has the document's face, and nothing else that is seen from outside. */
public final class FaceTest {
    private static final String INT5 = "(int,int,int,int,int)";

    public static void main(String[] args) {
        Due due = new Due();
        due.same("final and public", Modifier.toString(FilterStack.class.getModifiers()), "public final");
        due.same("ALLOW", FilterStack.ALLOW, 0x3C000000);
        due.same("fields", seenFields(), set("public static final int ALLOW"));
        due.same("constructors", constructors(), set("public ()"));
        due.same("methods", seenMethods(), set(
                "int add" + INT5, "int clear(int)", "int size(int)", "int shape(int,int)",
                "int number(int,int)", "int fault(int)", "int place(int)", "int set(int,int)",
                "int test(int)", "int steps()", "int rule(int,int,int,int)", "int forget()",
                "int compile(int,int)", "int install(int)", "int judge()"));
        due.same("throws of test", thrown("test"),
                set("IndexOutOfBoundsException", "IllegalStateException"));
        due.same("throws of install", thrown("install"),
                set("IndexOutOfBoundsException", "IllegalStateException", "UnsupportedOperationException"));
        due.same("static state", changeableStatics(), set());
        due.same("classes inside that are seen or not static", wrongClassesInside(), set());
        due.same("private methods with a public one's name", namesTwice(), set());
        due.end();
    }

    private static TreeSet<String> set(String... texts) {
        return new TreeSet<>(Arrays.asList(texts));
    }

    private static TreeSet<String> seenFields() {
        TreeSet<String> seen = new TreeSet<>();
        for (Field field : FilterStack.class.getDeclaredFields()) {
            if (!Modifier.isPrivate(field.getModifiers())) {
                seen.add(Modifier.toString(field.getModifiers()) + " " + field.getType() + " " + field.getName());
            }
        }
        return seen;
    }

    private static TreeSet<String> constructors() {
        TreeSet<String> seen = new TreeSet<>();
        for (Constructor<?> constructor : FilterStack.class.getDeclaredConstructors()) {
            seen.add(Modifier.toString(constructor.getModifiers()) + " " + parameters(constructor.getParameterTypes()));
        }
        return seen;
    }

    private static TreeSet<String> seenMethods() {
        TreeSet<String> seen = new TreeSet<>();
        for (Method method : FilterStack.class.getDeclaredMethods()) {
            if (!Modifier.isPrivate(method.getModifiers())) {
                String kind = Modifier.toString(method.getModifiers()).equals("public") ? "" : "not just public: ";
                seen.add(kind + method.getReturnType() + " " + method.getName() + parameters(method.getParameterTypes()));
            }
        }
        return seen;
    }

    private static TreeSet<String> thrown(String name) {
        TreeSet<String> seen = new TreeSet<>();
        for (Method method : FilterStack.class.getDeclaredMethods()) {
            if (method.getName().equals(name)) {
                for (Class<?> type : method.getExceptionTypes()) {
                    seen.add(type.getSimpleName());
                }
            }
        }
        return seen;
    }

    /** The class and those inside it. */
    private static List<Class<?>> classes() {
        List<Class<?>> all = new ArrayList<>();
        all.add(FilterStack.class);
        all.addAll(Arrays.asList(FilterStack.class.getDeclaredClasses()));
        return all;
    }

    private static TreeSet<String> changeableStatics() {
        TreeSet<String> seen = new TreeSet<>();
        for (Class<?> type : classes()) {
            for (Field field : type.getDeclaredFields()) {
                int modifiers = field.getModifiers();
                if (Modifier.isStatic(modifiers) && !Modifier.isFinal(modifiers)) {
                    seen.add(type.getName() + "." + field.getName());
                }
            }
        }
        return seen;
    }

    private static TreeSet<String> wrongClassesInside() {
        TreeSet<String> seen = new TreeSet<>();
        for (Class<?> type : FilterStack.class.getDeclaredClasses()) {
            int modifiers = type.getModifiers();
            if (Modifier.isPublic(modifiers) || Modifier.isProtected(modifiers) || !Modifier.isStatic(modifiers)) {
                seen.add(type.getName());
            }
        }
        return seen;
    }

    private static TreeSet<String> namesTwice() {
        TreeSet<String> publicNames = new TreeSet<>();
        for (Method method : FilterStack.class.getDeclaredMethods()) {
            if (Modifier.isPublic(method.getModifiers())) {
                publicNames.add(method.getName());
            }
        }
        TreeSet<String> seen = new TreeSet<>();
        for (Class<?> type : classes()) {
            for (Method method : type.getDeclaredMethods()) {
                if (Modifier.isPrivate(method.getModifiers()) && publicNames.contains(method.getName())) {
                    seen.add(type.getName() + "." + method.getName());
                }
            }
        }
        return seen;
    }

    private static String parameters(Class<?>[] types) {
        StringBuilder text = new StringBuilder("(");
        for (Class<?> type : types) {
            text.append(text.length() > 1 ? "," : "").append(type.getName());
        }
        return text.append(")").toString();
    }
}
