import java.lang.reflect.InvocationTargetException;
import java.lang.reflect.Method;
import java.util.ArrayList;
import java.util.HashMap;
import java.util.List;
import java.util.Map;
import java.util.stream.Collectors;
import java.util.stream.IntStream;

/** A call of the face, with the answer that is due, or null; it can be made on the class and on the oracle. */
record Call(String name, int[] arguments, String due) {
    private static final Map<String, Method> METHODS = new HashMap<>();

    static {
        for (Class<?> type : new Class<?>[] {RectilinearRoof.class, Oracle.class}) {
            for (Method method : type.getDeclaredMethods()) {
                method.setAccessible(true);
                METHODS.put(key(type, method.getName(), method.getParameterCount()), method);
            }
        }
    }

    private static String key(Class<?> type, String name, int arguments) {
        return type.getName() + "." + name + "/" + arguments;
    }

    static Call of(String name, int... arguments) {
        return new Call(name, arguments, null);
    }

    /** Reads calls written as in the document's examples; append('..') appends a text. */
    static List<Call> parse(String run) {
        List<Call> calls = new ArrayList<>();
        String left = run.strip();
        while (!left.isEmpty()) {
            int open = left.indexOf('(');
            boolean isText = left.startsWith("('", open);
            int inside = open + (isText ? 2 : 1);
            int close = left.indexOf(isText ? "')" : ")", inside);
            int after = close + (isText ? 2 : 1);
            int end = left.indexOf(';', after) < 0 ? left.length() : left.indexOf(';', after);
            String answer = left.substring(after, end).strip();
            String due = answer.startsWith(":") ? answer.substring(1).strip() : null;
            String name = left.substring(0, open).strip();
            if (isText) {
                appends(calls, left.substring(inside, close), due);
            } else {
                calls.add(new Call(name, numbers(left.substring(inside, close)), due));
            }
            left = left.substring(Math.min(end + 1, left.length())).strip();
        }
        return calls;
    }

    /** The answer is due of the last of the calls. */
    private static void appends(List<Call> calls, String text, String due) {
        for (int i = 0; i < text.length(); i += 4) {
            int packed = 0;
            for (int j = i; j < i + 4; j++) {
                packed = packed << 8 | (j < text.length() ? text.charAt(j) : 0);
            }
            calls.add(new Call("append", new int[] {packed}, i + 4 < text.length() ? null : due));
        }
    }

    private static int[] numbers(String list) {
        if (list.isBlank()) {
            return new int[0];
        }
        String[] parts = list.split(",");
        return IntStream.range(0, parts.length).map(i -> (int) (long) Long.decode(parts[i].strip())).toArray();
    }

    boolean isRefused() {
        return due != null && due.startsWith("throws");
    }

    boolean is(String method) {
        return name.equals(method);
    }

    /** The answer as a text, or what kind of exception was thrown. */
    String on(Object target) {
        Method method = METHODS.get(key(target.getClass(), name, arguments.length));
        if (method == null) {
            throw new IllegalStateException("no method " + name);
        }
        Object[] boxed = IntStream.of(arguments).boxed().toArray();
        try {
            return String.valueOf(method.invoke(target, boxed));
        } catch (InvocationTargetException e) {
            return kindOf(e.getCause().getClass());
        } catch (IllegalAccessException e) {
            throw new IllegalStateException(e);
        }
    }

    private static String kindOf(Class<?> type) {
        if (type == IllegalArgumentException.class) {
            return "throws argument";
        }
        if (type == IndexOutOfBoundsException.class) {
            return "throws index";
        }
        return type == IllegalStateException.class ? "throws state" : "throws " + type.getName();
    }

    @Override
    public String toString() {
        return IntStream.of(arguments).mapToObj(Integer::toString).collect(Collectors.joining(", ", name + "(", ")"));
    }
}
