import java.lang.reflect.Constructor;
import java.lang.reflect.Field;
import java.lang.reflect.Method;
import java.lang.reflect.Modifier;
import java.util.ArrayList;
import java.util.Arrays;
import java.util.Collections;
import java.util.List;

/** The class has the document's face and nothing else that can be seen from outside. */
public final class FaceTest {
    private static final Check CHECK = new Check();
    private static final String[] DUE = {
        "boolean insert(int,int) IndexOutOfBoundsException IllegalArgumentException",
        "int insertRange(int,int,int,int) IndexOutOfBoundsException IllegalArgumentException",
        "int insertAll(int,int) IndexOutOfBoundsException IllegalStateException",
        "boolean delete(int,int) IndexOutOfBoundsException IllegalArgumentException",
        "int pollFirst(int) IndexOutOfBoundsException NoSuchElementException",
        "int pollLast(int) IndexOutOfBoundsException NoSuchElementException",
        "int clear(int) IndexOutOfBoundsException",
        "int size(int) IndexOutOfBoundsException",
        "boolean contains(int,int) IndexOutOfBoundsException IllegalArgumentException",
        "int successor(int,int) IndexOutOfBoundsException IllegalArgumentException",
        "int predecessor(int,int) IndexOutOfBoundsException IllegalArgumentException",
        "int rank(int,int) IndexOutOfBoundsException IllegalArgumentException",
        "int select(int,int) IndexOutOfBoundsException",
        "int steps(int,int) IndexOutOfBoundsException IllegalArgumentException",
        "int trees(int) IndexOutOfBoundsException",
        "int clusterMinimum(int,int) IndexOutOfBoundsException",
        "int clusterMaximum(int,int) IndexOutOfBoundsException",
        "int prefixes(int,int) IndexOutOfBoundsException",
        "int longestMatch(int,int) IndexOutOfBoundsException IllegalArgumentException",
        "int probes(int,int) IndexOutOfBoundsException IllegalArgumentException",
        "int buckets(int) IndexOutOfBoundsException",
        "int separator(int,int) IndexOutOfBoundsException",
        "int bucketSize(int,int) IndexOutOfBoundsException",
        "int bucketOf(int,int) IndexOutOfBoundsException IllegalArgumentException",
    };

    private FaceTest() {
    }

    public static void main(String[] args) {
        Class<?> face = SmallNumberSets.class;
        CHECK.same("class", Modifier.toString(face.getModifiers()), "public final");
        methods(face);
        List<String> fields = new ArrayList<>();
        for (Field field : face.getDeclaredFields()) {
            if (!Modifier.isPrivate(field.getModifiers())) {
                fields.add(Modifier.toString(field.getModifiers()) + " " + field.getType() + " " + field.getName());
            }
        }
        CHECK.same("fields", fields.toString(), "[public static final int NONE]");
        Constructor<?>[] constructors = face.getDeclaredConstructors();
        CHECK.same("constructors", constructors.length, 1);
        CHECK.same("constructor", constructors[0].toGenericString(), "public SmallNumberSets()");
        CHECK.end();
    }

    private static void methods(Class<?> face) {
        List<String> got = new ArrayList<>();
        List<String> hidden = new ArrayList<>();
        for (Method method : face.getDeclaredMethods()) {
            if (Modifier.isPrivate(method.getModifiers()) || method.isSynthetic()) {
                hidden.add(method.getName());
            } else {
                CHECK.same(method.getName(), Modifier.toString(method.getModifiers()), "public");
                got.add(line(method));
            }
        }
        List<String> due = new ArrayList<>(Arrays.asList(DUE));
        Collections.sort(got);
        Collections.sort(due);
        CHECK.same("methods", got.toString(), due.toString());
        for (String text : due) {
            String name = text.substring(text.indexOf(' ') + 1, text.indexOf('('));
            CHECK.same("a private method bears the name " + name, hidden.contains(name), false);
        }
    }

    private static String line(Method method) {
        StringBuilder text = new StringBuilder();
        text.append(method.getReturnType()).append(' ').append(method.getName()).append('(');
        for (int i = 0; i < method.getParameterTypes().length; i++) {
            text.append(i == 0 ? "" : ",").append(method.getParameterTypes()[i]);
        }
        text.append(')');
        for (Class<?> thrown : method.getExceptionTypes()) {
            text.append(' ').append(thrown.getSimpleName());
        }
        return text.toString();
    }
}
