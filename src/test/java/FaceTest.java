import java.lang.reflect.Constructor;
import java.lang.reflect.Method;
import java.lang.reflect.Modifier;
import java.util.ArrayList;
import java.util.Arrays;
import java.util.Collections;
import java.util.List;

/** The public face: what the document names and nothing else, and no private method with a name of it. */
public final class FaceTest {
    private static final String[] FACE = {
        "binary(int, int, int, int) void [ArithmeticException, IllegalArgumentException, IndexOutOfBoundsException]",
        "compare(int, int) int [IllegalArgumentException]",
        "count(int) int [IllegalArgumentException]",
        "end(int) int [IllegalArgumentException]",
        "feed(int, int, int, int, int) int [IndexOutOfBoundsException]",
        "one(int, int, int) void [ArithmeticException, IllegalArgumentException, IndexOutOfBoundsException]",
        "print(int) int [IllegalArgumentException]",
        "read(int) int [IllegalArgumentException, IndexOutOfBoundsException, UnsupportedOperationException]",
        "same(int, int) boolean [IllegalArgumentException]",
        "sort(int, int, int, int) void [ArithmeticException, IllegalArgumentException, IndexOutOfBoundsException]",
        "two(int, int, int, int) void [ArithmeticException, IllegalArgumentException, IndexOutOfBoundsException]",
        "word(int) long [IndexOutOfBoundsException]"};

    public static void main(String[] args) {
        Bench.due("the class is public and final", ValueBench.class.getModifiers(), Modifier.PUBLIC | Modifier.FINAL);
        Constructor<?>[] constructors = ValueBench.class.getDeclaredConstructors();
        Bench.due("constructors", constructors.length, 1);
        Bench.due("the constructor is public", constructors[0].getModifiers(), Modifier.PUBLIC);
        Bench.due("parameters of the constructor", constructors[0].getParameterCount(), 0);
        List<String> face = new ArrayList<>();
        List<String> names = new ArrayList<>();
        for (Method method : ValueBench.class.getDeclaredMethods()) {
            if (!Modifier.isPrivate(method.getModifiers())) {
                face.add(told(method));
                names.add(method.getName());
                Bench.due(method.getName() + " is public alone", method.getModifiers(), Modifier.PUBLIC);
            }
        }
        Collections.sort(face);
        Bench.due("the face", face, Arrays.asList(FACE));
        Arrays.stream(ValueBench.class.getDeclaredFields()).forEach(field ->
                Bench.due("field " + field.getName() + " is private", Modifier.isPrivate(field.getModifiers()), true));
        for (Class<?> inside : ValueBench.class.getDeclaredClasses()) {
            Bench.due(inside + " is private and static", inside.getModifiers() & (Modifier.PRIVATE | Modifier.STATIC),
                    Modifier.PRIVATE | Modifier.STATIC);
            dueOtherNames(inside, names);
        }
        dueOtherNames(null, names);
        Bench.finish();
    }

    private static String told(Method method) {
        String parameters = Arrays.toString(method.getParameterTypes()).replace('[', '(').replace(']', ')');
        List<String> thrown = new ArrayList<>();
        for (Class<?> exception : method.getExceptionTypes()) {
            thrown.add(exception.getSimpleName());
        }
        Collections.sort(thrown);
        return method.getName() + parameters + " " + method.getReturnType() + " " + thrown;
    }

    private static void dueOtherNames(Class<?> inside, List<String> names) {
        Class<?> owner = inside == null ? ValueBench.class : inside;
        for (Method method : owner.getDeclaredMethods()) {
            boolean ofTheFace = inside == null && Modifier.isPublic(method.getModifiers());
            Bench.due(owner + "." + method.getName() + " bears a name of the face", !ofTheFace && names.contains(method.getName()), false);
        }
    }
}
