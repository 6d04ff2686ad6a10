import java.lang.reflect.Constructor;
import java.lang.reflect.Field;
import java.lang.reflect.Method;
import java.lang.reflect.Modifier;
import java.util.ArrayList;
import java.util.Arrays;
import java.util.List;
import java.util.TreeSet;

/** Looks whether the class shows just the public face of the document, with the exceptions it names. */
public final class FaceTest {
    private static final String[] FACE = {
        "int pit(int) IllegalArgumentException UnsupportedOperationException",
        "int digit(int,int) IllegalArgumentException UnsupportedOperationException",
        "int digitOf(int) IllegalArgumentException",
        "int pitOf(int,int) IndexOutOfBoundsException IllegalArgumentException",
        "int ranked(int) NoSuchElementException",
        "int scoop(int,int,int) IndexOutOfBoundsException IllegalArgumentException UnsupportedOperationException",
        "int play() NoSuchElementException",
        "int scoops()",
        "int scoopAt(int,int) NoSuchElementException IllegalArgumentException",
        "int told(int) NoSuchElementException IllegalArgumentException",
        "boolean wins(boolean) IllegalStateException",
        "int next() UnsupportedOperationException",
        "int turn()",
        "int monkOf(int,int) IndexOutOfBoundsException IllegalArgumentException",
        "int value(int,boolean) IllegalArgumentException",
        "boolean lists(int,int) IllegalArgumentException",
        "int listed(int) IllegalArgumentException",
        "int sum()",
        "int period(int) IllegalArgumentException NoSuchElementException",
        "int least(int) NoSuchElementException",
        "int line()",
        "int valuesLine(int) IllegalArgumentException",
        "char character(int) IndexOutOfBoundsException",
        "int append(char) IllegalStateException",
        "int run() IllegalArgumentException UnsupportedOperationException",
        "int errorPosition()",
        "int refusal(boolean) NoSuchElementException",
        "int account(int) IllegalArgumentException",
        "boolean isWell()",
        "double meanMarbles() ArithmeticException",
        "float share(int) IndexOutOfBoundsException ArithmeticException",
        "int undo() IllegalStateException",
        "int save()",
        "int restore() IllegalStateException",
    };

    private static String told(Method method) {
        List<String> types = new ArrayList<>();
        for (Class<?> type : method.getParameterTypes()) {
            types.add(type.getSimpleName());
        }
        StringBuilder out = new StringBuilder();
        out.append(method.getReturnType().getSimpleName()).append(' ').append(method.getName());
        out.append('(').append(String.join(",", types)).append(')');
        for (Class<?> thrown : method.getExceptionTypes()) {
            out.append(' ').append(thrown.getSimpleName());
        }
        return out.toString();
    }

    public static void main(String[] args) {
        int wrong = 0;
        TreeSet<String> due = new TreeSet<>(Arrays.asList(FACE));
        TreeSet<String> names = new TreeSet<>();
        for (String one : FACE) {
            names.add(one.substring(one.indexOf(' ') + 1, one.indexOf('(')));
        }
        TreeSet<String> there = new TreeSet<>();
        for (Method method : MonkMarbles.class.getDeclaredMethods()) {
            if (Modifier.isPublic(method.getModifiers())) {
                there.add(told(method));
            } else if (!Modifier.isPrivate(method.getModifiers()) || names.contains(method.getName())) {
                wrong++;
                System.out.println("neither public nor hidden enough: " + method);
            }
        }
        if (!there.equals(due)) {
            wrong++;
            System.out.println("the face is " + there + ", due is " + due);
        }
        for (Field field : MonkMarbles.class.getDeclaredFields()) {
            if (!Modifier.isPrivate(field.getModifiers())) {
                wrong++;
                System.out.println("not private: " + field);
            }
        }
        Constructor<?>[] made = MonkMarbles.class.getDeclaredConstructors();
        if (made.length != 1 || !Modifier.isPublic(made[0].getModifiers()) || made[0].getParameterCount() != 0) {
            wrong++;
            System.out.println("the constructors are " + Arrays.toString(made));
        }
        int modifiers = MonkMarbles.class.getModifiers();
        if (!Modifier.isPublic(modifiers) || !Modifier.isFinal(modifiers)) {
            wrong++;
            System.out.println("the class is not public and final");
        }
        for (Class<?> inside : MonkMarbles.class.getDeclaredClasses()) {
            if (Modifier.isPublic(inside.getModifiers()) || Modifier.isProtected(inside.getModifiers())) {
                wrong++;
                System.out.println("a class inside is not hidden: " + inside);
            }
        }
        System.out.println(wrong == 0 ? "the face is as due" : wrong + " faults in the face");
        if (wrong != 0) {
            System.exit(1);
        }
    }
}
