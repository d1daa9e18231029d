import java.lang.reflect.Method;
import java.lang.reflect.Modifier;
import java.util.Arrays;
import java.util.Map;
import java.util.TreeMap;

/** Calls the acts of a StarCrew by their names. */
final class Calls implements Caller {
    /** The acts by their names, in the order of these. */
    static final Map<String, Method> ACTS = acts();
    private final StarCrew x = new StarCrew();

    private static Map<String, Method> acts() {
        Map<String, Method> acts = new TreeMap<>();
        for (Method m : StarCrew.class.getDeclaredMethods()) {
            if (Modifier.isPublic(m.getModifiers())) {
                acts.put(m.getName(), m);
            }
        }
        return acts;
    }

    @Override
    public long call(String name, int... a) {
        try {
            return ((Number) ACTS.get(name).invoke(x, Arrays.stream(a).boxed().toArray())).longValue();
        } catch (ReflectiveOperationException e) {
            throw new IllegalStateException(name + Arrays.toString(a), e);
        }
    }
}
