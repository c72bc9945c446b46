import java.lang.reflect.InvocationTargetException;
import java.lang.reflect.Method;
import java.util.HashMap;
import java.util.Map;
import java.util.Set;

/** One call, written as the document writes it: "boat(0, 0, 60, 2)". */
final class Call {
    private static final Set<String> CHANGING = Set.of("day", "boat", "beast", "log", "watcher", "pole", "sight", "feed",
        "end", "row", "law", "story", "sweep", "kin", "offer", "year", "ripple", "run", "image", "back");
    private static final Map<String, Method> METHODS = new HashMap<>();

    final String text;
    private final String name;
    private final Object[] numbers;

    private Call(String text, String name, Object[] numbers) {
        this.text = text;
        this.name = name;
        this.numbers = numbers;
    }

    static Call of(String text) {
        int open = text.indexOf('(');
        String inside = text.substring(open + 1, text.lastIndexOf(')')).trim();
        String[] parts = inside.isEmpty() ? new String[0] : inside.split(" *, *");
        Object[] numbers = new Object[parts.length];
        for (int i = 0; i < parts.length; i++) {
            numbers[i] = Integer.valueOf(parts[i]);
        }
        return new Call(text, text.substring(0, open), numbers);
    }

    boolean isChanging() {
        return CHANGING.contains(name);
    }

    /** On a LakeWatch, or on an Oracle: both have the document's face. */
    int on(Object lake) {
        try {
            return (Integer) methodOf(lake.getClass()).invoke(lake, numbers);
        } catch (InvocationTargetException e) {
            throw new IllegalStateException(text + " has thrown", e.getCause());
        } catch (IllegalAccessException e) {
            throw new IllegalStateException(text + " can't be called", e);
        }
    }

    private Method methodOf(Class<?> face) {
        return METHODS.computeIfAbsent(face.getName() + "." + name, key -> find(face));
    }

    private Method find(Class<?> face) {
        for (Method method : face.getDeclaredMethods()) {
            if (method.getName().equals(name) && method.getParameterCount() == numbers.length) {
                return method;
            }
        }
        throw new IllegalStateException("there is no " + text + " in " + face);
    }
}
