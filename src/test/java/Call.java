import java.lang.reflect.Method;
import java.util.Arrays;
import java.util.HashMap;
import java.util.Map;

/** A call as data, so that one and the same can be made on the program and on the model. */
final class Call {
    private static final Map<String, Method> METHODS = new HashMap<>();

    private final String name;
    private final Object[] args;

    Call(String name, int... args) {
        this.name = name;
        this.args = Arrays.stream(args).boxed().toArray();
    }

    /** Makes the call; a boolean answer counts 1 or 0. */
    int on(Object target) {
        try {
            Object answer = method(target.getClass()).invoke(target, args);
            return answer instanceof Boolean b ? (b ? 1 : 0) : (Integer) answer;
        } catch (ReflectiveOperationException e) {
            throw new IllegalStateException(this + " can't be made", e);
        }
    }

    private Method method(Class<?> face) throws NoSuchMethodException {
        String key = face.getName() + "." + name;
        Method known = METHODS.get(key);
        if (known == null) {
            Class<?>[] types = new Class<?>[args.length];
            Arrays.fill(types, int.class);
            known = face.getDeclaredMethod(name, types);
            METHODS.put(key, known);
        }
        return known;
    }

    @Override
    public String toString() {
        String list = Arrays.toString(args);
        return name + "(" + list.substring(1, list.length() - 1) + ")";
    }
}
