import java.lang.reflect.Constructor;
import java.lang.reflect.Field;
import java.lang.reflect.Method;
import java.lang.reflect.Modifier;
import java.util.Arrays;
import java.util.Set;
import java.util.TreeSet;

/** The public face of the document, and nothing beside it that is not private. */
public final class FaceTest {
    private static final Due DUE = new Due();

    private static final String[] FACE = {
        "int feed(int, long) IllegalArgumentException",
        "int read(int) IllegalArgumentException",
        "int place()",
        "int barcode()",
        "int adapter()",
        "boolean limits(int, int, int)",
        "int told(int) IndexOutOfBoundsException",
        "int sort(int, int) IllegalArgumentException",
        "int about(int, int) IndexOutOfBoundsException",
        "int letter(int, int, int) IndexOutOfBoundsException",
        "int bin(int, int) IndexOutOfBoundsException IllegalStateException",
        "int group(int, int, int) IndexOutOfBoundsException IllegalStateException",
        "int write(int, int, boolean) IllegalArgumentException IndexOutOfBoundsException IllegalStateException",
        "int out(int) IndexOutOfBoundsException",
        "int again()",
    };

    public static void main(String[] args) {
        members();
        fields();
        insideClasses();
        DUE.end();
    }

    private static void members() {
        DUE.is("the class is public and final", ReadBins.class.getModifiers(), Modifier.PUBLIC | Modifier.FINAL);
        Constructor<?>[] constructors = ReadBins.class.getDeclaredConstructors();
        DUE.is("constructors", constructors.length, 1);
        DUE.is("the constructor", constructors[0].toGenericString(), "public ReadBins()");
        Set<String> found = new TreeSet<>();
        Set<String> names = new TreeSet<>();
        for (Method method : ReadBins.class.getDeclaredMethods()) {
            if (!Modifier.isPrivate(method.getModifiers())) {
                found.add(signature(method));
                names.add(method.getName());
            }
        }
        DUE.is("methods", found.toString(), new TreeSet<>(Arrays.asList(FACE)).toString());
        for (Method method : ReadBins.class.getDeclaredMethods()) {
            boolean hidden = Modifier.isPrivate(method.getModifiers());
            DUE.is("a private method's name is its own: " + method.getName(), hidden && names.contains(method.getName()), false);
        }
    }

    private static String signature(Method method) {
        StringBuilder text = new StringBuilder(method.getReturnType() + " " + method.getName() + "(");
        String between = "";
        for (Class<?> type : method.getParameterTypes()) {
            text.append(between).append(type);
            between = ", ";
        }
        text.append(")");
        for (Class<?> kind : method.getExceptionTypes()) {
            text.append(" ").append(kind.getSimpleName());
        }
        return text.toString();
    }

    private static void fields() {
        for (Field field : ReadBins.class.getDeclaredFields()) {
            boolean isNone = field.getName().equals("NONE");
            DUE.is("private: " + field.getName(), Modifier.isPrivate(field.getModifiers()), !isNone);
            if (isNone) {
                DUE.is("NONE", field.toString(), "public static final int ReadBins.NONE");
            }
        }
    }

    private static void insideClasses() {
        for (Class<?> inside : ReadBins.class.getDeclaredClasses()) {
            DUE.is("static: " + inside, Modifier.isStatic(inside.getModifiers()), true);
            DUE.is("not public: " + inside, Modifier.isPublic(inside.getModifiers()), false);
        }
    }
}
