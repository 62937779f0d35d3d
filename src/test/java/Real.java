import java.lang.reflect.Method;
import java.lang.reflect.Modifier;
import java.util.Map;
import java.util.TreeMap;

/** An object of the class, asked by the names of its calls; it counts them, for the document promises 512 alone. */
final class Real implements Asked {
    static final Map<String, Method> METHODS = new TreeMap<>();

    static {
        for (Method m : IslandCall.class.getDeclaredMethods()) {
            if (Modifier.isPublic(m.getModifiers())) {
                METHODS.put(m.getName(), m);
            }
        }
    }

    final IslandCall x = new IslandCall();
    int calls = 0;

    @Override
    public long ask(String name, long... a) {
        Method m = METHODS.get(name);
        Class<?>[] kinds = m.getParameterTypes();
        Object[] given = new Object[a.length];
        for (int i = 0; i < a.length; i++) {
            if (kinds[i] == boolean.class) {
                given[i] = a[i] == 1;
            } else if (kinds[i] == long.class) {
                given[i] = a[i];
            } else {
                given[i] = (int) a[i];
            }
        }
        calls++;
        try {
            Object answer = m.invoke(x, given);
            return answer instanceof Boolean b ? (b ? 1 : 0) : ((Number) answer).longValue();
        } catch (ReflectiveOperationException e) {
            throw new IllegalStateException(name + " threw", e.getCause());
        }
    }

    /** What a call gives that is refused. */
    static long refusal(String name) {
        return METHODS.get(name).getReturnType() == boolean.class ? 0 : IslandCall.NONE;
    }
}
