import java.lang.reflect.Constructor;
import java.lang.reflect.Field;
import java.lang.reflect.Method;
import java.lang.reflect.Modifier;
import java.util.ArrayList;
import java.util.Arrays;
import java.util.HashSet;
import java.util.List;
import java.util.Set;
import java.util.TreeSet;

/** The class shows the document's face and nothing else. */
final class FaceTest {
    private static final String[] FACE = {
        "int classroom(int) IllegalArgumentException IllegalStateException",
        "int pupil(int) IndexOutOfBoundsException IllegalStateException",
        "int task(int,int,int,char,int) IndexOutOfBoundsException IllegalArgumentException IllegalStateException",
        "int pass(int) IllegalArgumentException IllegalStateException",
        "int clock(int) IndexOutOfBoundsException",
        "int type(int) IllegalArgumentException IllegalStateException",
        "int insert(int,int) IndexOutOfBoundsException IllegalArgumentException IllegalStateException",
        "int reverse()",
        "int wipe()",
        "char charAt(int) NoSuchElementException",
        "int save(int,int,int,int) IndexOutOfBoundsException IllegalArgumentException"
            + " UnsupportedOperationException IllegalStateException",
        "int of(int,char) IndexOutOfBoundsException IllegalArgumentException",
        "int forks(int) IndexOutOfBoundsException",
        "int heads(int,int) IndexOutOfBoundsException",
        "int hand(int) IndexOutOfBoundsException UnsupportedOperationException IllegalStateException",
        "boolean withdraw(int) IndexOutOfBoundsException UnsupportedOperationException",
        "boolean isIn(int) IndexOutOfBoundsException",
        "int late(int) IndexOutOfBoundsException UnsupportedOperationException",
        "int off(int,int) IndexOutOfBoundsException IllegalArgumentException",
        "int points(int,int) IndexOutOfBoundsException IllegalArgumentException",
        "int counting(int,int) IndexOutOfBoundsException NoSuchElementException",
        "int mark(int,int) IndexOutOfBoundsException UnsupportedOperationException",
        "boolean isFrozen(int,int) IndexOutOfBoundsException",
        "int shared(int,int) IndexOutOfBoundsException",
        "int shingle(int,int) IndexOutOfBoundsException NoSuchElementException",
        "int indexed()",
        "int holders(int)",
        "int threshold(int) IllegalArgumentException",
        "int hits()",
        "int hit(int,char) IndexOutOfBoundsException IllegalArgumentException",
        "int hear(int,int) IndexOutOfBoundsException IllegalArgumentException UnsupportedOperationException",
        "int next() NoSuchElementException",
        "byte byteSum(int) IndexOutOfBoundsException",
        "short shortSum(int) IndexOutOfBoundsException",
        "long packed(int) IndexOutOfBoundsException",
        "float inShare() ArithmeticException",
        "double meanMark() ArithmeticException",
        "boolean isTrue()",
    };

    public static void main(String[] args) {
        methods();
        fields();
        Check.same("constructors", constructors(), List.of("public 0"));
        Check.same("the class", Modifier.toString(Homewatcher.class.getModifiers()), "public final");
        Check.same("its package", Homewatcher.class.getPackageName(), "");
        inside();
        Check.end();
    }

    private static void methods() {
        Set<String> open = new TreeSet<>();
        Set<String> openNames = new HashSet<>();
        Set<String> hiddenNames = new HashSet<>();
        for (Method method : Homewatcher.class.getDeclaredMethods()) {
            if (Modifier.isPrivate(method.getModifiers())) {
                hiddenNames.add(method.getName());
            } else if (!method.isSynthetic()) {
                open.add(line(method));
                openNames.add(method.getName());
            }
        }
        hiddenNames.retainAll(openNames);
        Check.same("the open methods", open, new TreeSet<>(Arrays.asList(FACE)));
        Check.same("private methods with an open one's name", hiddenNames, Set.of());
    }

    private static String line(Method method) {
        StringBuilder line = new StringBuilder();
        line.append(method.getReturnType()).append(' ').append(method.getName()).append('(');
        for (int i = 0; i < method.getParameterCount(); i++) {
            line.append(i == 0 ? "" : ",").append(method.getParameterTypes()[i]);
        }
        line.append(')');
        for (Class<?> thrown : method.getExceptionTypes()) {
            line.append(' ').append(thrown.getSimpleName());
        }
        return line.toString();
    }

    private static void fields() {
        for (Field field : Homewatcher.class.getDeclaredFields()) {
            int modifiers = field.getModifiers();
            Check.same("private " + field.getName(), Modifier.isPrivate(modifiers), true);
            if (Modifier.isStatic(modifiers)) {
                Check.same("final " + field.getName(), Modifier.isFinal(modifiers), true);
            }
        }
    }

    private static List<String> constructors() {
        List<String> all = new ArrayList<>();
        for (Constructor<?> one : Homewatcher.class.getDeclaredConstructors()) {
            all.add(Modifier.toString(one.getModifiers()) + " " + one.getParameterCount());
            Check.same("what a constructor throws", one.getExceptionTypes().length, 0);
        }
        return all;
    }

    private static void inside() {
        for (Class<?> one : Homewatcher.class.getDeclaredClasses()) {
            int modifiers = one.getModifiers();
            Check.same("static " + one.getName(), Modifier.isStatic(modifiers), true);
            Check.same("open " + one.getName(), Modifier.isPublic(modifiers) || Modifier.isProtected(modifiers), false);
            for (Field field : one.getDeclaredFields()) {
                boolean constant = Modifier.isFinal(field.getModifiers());
                Check.same("no static state in " + field, Modifier.isStatic(field.getModifiers()) && !constant, false);
            }
        }
    }
}
