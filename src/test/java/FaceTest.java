import java.lang.reflect.Constructor;
import java.lang.reflect.Field;
import java.lang.reflect.Method;
import java.lang.reflect.Modifier;
import java.util.Arrays;
import java.util.Set;
import java.util.TreeSet;

/** The public face is the document's and nothing more, and the shape of the file keeps to LANGUAGE.md. */
public final class FaceTest {
    private static final String[] FACE = {
        "int rectangle(int,int,int,int,int) IllegalArgumentException IndexOutOfBoundsException",
        "int clear()",
        "int append(int) IllegalArgumentException IllegalStateException",
        "int execute() IllegalArgumentException",
        "int errorPosition()",
        "int undo() IllegalStateException",
        "int redo() IllegalStateException",
        "int save()",
        "int restore() IllegalStateException",
        "boolean contains(int,int) IndexOutOfBoundsException",
        "int edges()",
        "int edge(int,int) IndexOutOfBoundsException IllegalArgumentException",
        "int corners()",
        "int groups()",
        "int group(int,int) IndexOutOfBoundsException IllegalArgumentException",
        "int symmetries()",
        "int height(int,int) IndexOutOfBoundsException",
        "int face(int,int) IndexOutOfBoundsException",
        "int area(int) IllegalArgumentException",
        "int volume()",
        "int phases()",
        "int phase(int,int) IndexOutOfBoundsException IllegalArgumentException",
        "int contour(int,int,int) IndexOutOfBoundsException IllegalArgumentException",
        "int vertex(int,int,int,int) IndexOutOfBoundsException IllegalArgumentException",
        "int origin(int,int,int,int) IndexOutOfBoundsException IllegalArgumentException",
        "int component(int,int,int) IndexOutOfBoundsException",
        "int events()",
        "int event(int,int) IndexOutOfBoundsException IllegalArgumentException",
        "int branches()",
        "int branch(int,int) IndexOutOfBoundsException IllegalArgumentException",
        "int clearance(int,int,int,int) IndexOutOfBoundsException",
        "int path(int,int,int,int,int) IndexOutOfBoundsException",
        "int count(int) IllegalArgumentException",
    };

    private FaceTest() {
    }

    public static void main(String[] args) throws Exception {
        Class<?> type = RectilinearRoof.class;
        Check.same("public final", type.getModifiers(), Modifier.PUBLIC | Modifier.FINAL);
        Set<String> names = new TreeSet<>();
        Set<String> found = new TreeSet<>();
        for (Method m : type.getDeclaredMethods()) {
            if (Modifier.isPrivate(m.getModifiers())) {
                continue;
            }
            names.add(m.getName());
            found.add(signature(m));
        }
        Check.same("the face", found.toString(), new TreeSet<>(Arrays.asList(FACE)).toString());
        for (Constructor<?> c : type.getDeclaredConstructors()) {
            Check.same("constructor", c.toString(), "public RectilinearRoof()");
        }
        shape(type, names);
        Class<?>[] inside = type.getDeclaredClasses();
        Check.same("at most twelve classes", inside.length < 12 ? 1 : 0, 1);
        for (Class<?> c : inside) {
            int due = Modifier.PRIVATE | Modifier.STATIC | Modifier.FINAL;
            Check.same(c + " is private, static and final", c.getModifiers(), due);
            shape(c, names);
            for (Method m : c.getDeclaredMethods()) {
                Check.same(m + " bears a name of the face", names.contains(m.getName()) ? 1 : 0, 0);
            }
        }
        Check.finish("FaceTest");
    }

    private static String signature(Method m) {
        StringBuilder s = new StringBuilder();
        s.append(m.getReturnType().getSimpleName()).append(' ').append(m.getName()).append('(');
        for (int i = 0; i < m.getParameterCount(); i++) {
            s.append(i == 0 ? "" : ",").append(m.getParameterTypes()[i].getSimpleName());
        }
        s.append(')');
        for (Class<?> e : m.getExceptionTypes()) {
            s.append(' ').append(e.getSimpleName());
        }
        return s.toString();
    }

    private static void shape(Class<?> type, Set<String> names) {
        int fields = 0;
        for (Field f : type.getDeclaredFields()) {
            int how = f.getModifiers();
            Check.same(f + " is no changing static", Modifier.isStatic(how) && !Modifier.isFinal(how) ? 1 : 0, 0);
            Check.same(f + " is made by the compiler", f.isSynthetic() ? 1 : 0, 0);
            if (type == RectilinearRoof.class) {
                Check.same(f + " is private", Modifier.isPrivate(how) ? 1 : 0, 1);
            }
            fields += Modifier.isStatic(how) ? 0 : 1;
        }
        Check.same(type + " has at most twenty fields", fields <= 20 ? 1 : 0, 1);
        for (Method m : type.getDeclaredMethods()) {
            Check.same(m + " has at most seven parameters", m.getParameterCount() <= 7 ? 1 : 0, 1);
            if (Modifier.isPrivate(m.getModifiers())) {
                Check.same(m + " bears a name of the face", names.contains(m.getName()) ? 1 : 0, 0);
            }
        }
    }
}
