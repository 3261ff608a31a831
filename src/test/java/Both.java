import java.lang.reflect.InvocationTargetException;
import java.lang.reflect.Method;
import java.util.ArrayList;
import java.util.Arrays;
import java.util.List;
import java.util.Map;
import java.util.TreeMap;

/** An object of the class and one of the model, asked the same calls; the calls are counted. */
final class Both {
    /** By name: the call of the class, the call of the model. */
    private static final Map<String, Method[]> CALLS = new TreeMap<>();

    static {
        for (Method m : TonguesDealt.class.getMethods()) {
            if (m.getDeclaringClass() == TonguesDealt.class) CALLS.put(m.getName(), new Method[] {m, inModel(m)});
        }
    }

    private final TonguesDealt x = new TonguesDealt();
    private final List<String> told = new ArrayList<>();
    /** What is asked of this one alone is no call of a run. */
    final Model model = new Model();
    private boolean same = true;

    private static Method inModel(Method m) {
        try {
            return Model.class.getDeclaredMethod(m.getName(), m.getParameterTypes());
        } catch (NoSuchMethodException e) {
            throw new IllegalStateException(e);
        }
    }

    static List<String> names() {
        return new ArrayList<>(CALLS.keySet());
    }

    /** What the class answers; whether the model does so too is seen by same(). */
    long ask(String name, int... numbers) {
        Object[] given = Arrays.stream(numbers).boxed().toArray();
        long got = answer(CALLS.get(name)[0], x, given);
        long want = answer(CALLS.get(name)[1], model, given);
        String call = name + Arrays.toString(numbers).replace('[', '(').replace(']', ')');
        told.add(call + " = " + got);
        if (got != want) {
            same = false;
            told.add("the model answers " + want);
        }
        return got;
    }

    private static long answer(Method m, Object of, Object[] numbers) {
        try {
            return ((Number) m.invoke(of, numbers)).longValue();
        } catch (InvocationTargetException | IllegalAccessException e) {
            System.out.println(m.getName() + Arrays.toString(numbers) + " threw " + e.getCause());
            return Long.MIN_VALUE;
        }
    }

    boolean same() {
        return same;
    }

    int calls() {
        return told.size();
    }

    /** The latest calls, for whoever looks for a fault. */
    String told(int most) {
        return String.join("\n", told.subList(Math.max(0, told.size() - most), told.size()));
    }
}
