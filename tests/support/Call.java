import java.lang.reflect.InvocationTargetException;
import java.lang.reflect.Method;
import java.util.Arrays;
import java.util.HashMap;
import java.util.List;
import java.util.Map;
import java.util.stream.Collectors;

/** One call by name, so that the class, the model and a second object can be given the very same one. */
record Call(String method, int... numbers) {
    private static final Map<String, Method> KNOWN = new HashMap<>();

    long on(Object object) {
        Object[] boxed = Arrays.stream(numbers).boxed().toArray();
        try {
            return ((Number) methodOf(object).invoke(object, boxed)).longValue();
        } catch (InvocationTargetException e) {
            throw new IllegalStateException(this + " threw " + e.getCause(), e.getCause());
        } catch (ReflectiveOperationException e) {
            throw new IllegalStateException("the test asks for " + this, e);
        }
    }

    private Method methodOf(Object object) throws NoSuchMethodException {
        String key = object.getClass().getName() + "." + method + "/" + numbers.length;
        Method known = KNOWN.get(key);
        if (known == null) {
            Class<?>[] ints = new Class<?>[numbers.length];
            Arrays.fill(ints, int.class);
            known = object.getClass().getDeclaredMethod(method, ints);
            KNOWN.put(key, known);
        }
        return known;
    }

    /** A new object that had these calls. */
    static BackHooks again(List<Call> calls) {
        BackHooks x = new BackHooks();
        for (Call call : calls) {
            call.on(x);
        }
        return x;
    }

    @Override
    public String toString() {
        return Arrays.stream(numbers).mapToObj(String::valueOf).collect(Collectors.joining(", ", method + "(", ")"));
    }
}
