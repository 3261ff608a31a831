import java.lang.reflect.InvocationTargetException;
import java.lang.reflect.Method;
import java.util.ArrayList;
import java.util.Arrays;
import java.util.List;

/**
 * Every call with numbers at, beside and far outside its bounds, all of them with all others, in
 * states from nothing to full: each answer, and what is told behind it, against the model's.
 */
public final class SweepTest {
    private static final int MIN = Integer.MIN_VALUE, MAX = Integer.MAX_VALUE;
    private static final int[] MANY = {MIN, MIN + 1, -129, -128, -1, 0, 1, 2, 3, 4, 5, 6, 7, 19, 20, 21, 39, 40, 41,
        59, 60, 61, 63, 64, 127, 128, 255, 256, MAX - 1, MAX};
    private static final int[] SOME = {MIN, -1, 0, 1, 2, 3, 4, 5, 6, 40, 60, MAX};
    private static final int[] FEW = {MIN, -1, 0, 1, 3, 6, 40, 41, MAX};
    /** Some calls on one pair of objects, then new ones: an object is promised for 512 calls. */
    private static final int BATCH = 40;
    private static final int MOST_WRONG = 20;

    private static final String ROWS = "row 0 40; lay 0 0 3; lay 0 39 -2147483648; row 1 0; row 3 6; lay 3 1 2; "
        + "lay 3 4 3; row 4 4; lay 4 0 1; row 5 1; text 0 16; text 1 60; put 1 59 7; text 2 0; ";
    private static final String ONE = ROWS + "put 0 3 116; town 0; deal 5; ";
    private static final String TWO = ROWS + "put 0 3 112; put 0 5 108; town 0; keep 1; noon; ";
    /** By "plmdst a03   g25". */
    private static final String SIX = ROWS
        + "put 0 0 112; put 0 1 108; put 0 2 109; put 0 3 100; put 0 4 115; put 0 5 116; "
        + "put 0 7 97; put 0 8 48; put 0 9 51; put 0 13 103; put 0 14 50; put 0 15 53; "
        + "town 0; lots 2 99; keep 0; sign 0 4; keep 2; ";
    private static final String[] STATES = {"", ROWS, ONE, TWO, SIX, SIX + "noon; ", SIX + "lots 18 5; lots 19 7; ",
        SIX + "lots 18 5; lots 18 7; noon; "};

    private final String state;
    private final Method ofClass;
    private final Method ofModel;
    private TonguesDealt x;
    private Model model;
    private int left = 0;
    private static int wrong = 0;

    private SweepTest(String state, Method ofClass, Method ofModel) {
        this.state = state;
        this.ofClass = ofClass;
        this.ofModel = ofModel;
    }

    public static void main(String[] args) throws ReflectiveOperationException {
        for (Method m : methods()) {
            for (String state : STATES) new SweepTest(state, m, inModel(m)).sweep();
        }
        Check.end("SweepTest");
    }

    private static List<Method> methods() {
        List<Method> all = new ArrayList<>();
        for (Method m : TonguesDealt.class.getMethods()) {
            if (m.getDeclaringClass() == TonguesDealt.class) all.add(m);
        }
        return all;
    }

    private static Method inModel(Method m) throws NoSuchMethodException {
        Method same = Model.class.getDeclaredMethod(m.getName(), m.getParameterTypes());
        same.setAccessible(true);
        return same;
    }

    private void sweep() throws ReflectiveOperationException {
        int count = ofClass.getParameterCount();
        if (count == 5 && !state.equals(SIX)) return;
        int[] numbers = count < 3 ? MANY : count == 3 ? SOME : FEW;
        sweep(numbers, new Object[count], 0);
    }

    private void sweep(int[] numbers, Object[] chosen, int i) throws ReflectiveOperationException {
        if (i == chosen.length) {
            compare(chosen);
            return;
        }
        for (int n : numbers) {
            chosen[i] = n;
            sweep(numbers, chosen, i + 1);
        }
    }

    private void compare(Object[] numbers) throws ReflectiveOperationException {
        if (left == 0) begin();
        left--;
        long want = ((Number) ofModel.invoke(model, numbers)).longValue();
        long got = answer(numbers);
        boolean same = got == want && x.asked() == model.asked() && x.upper() == model.upper()
            && x.lower() == model.lower() && x.finding() == model.finding() && x.digest() == model.digest();
        for (int f = 1; f < 6; f++) same &= x.findings(f) == model.findings(f);
        Check.holds(same ? "" : told(numbers) + " as the model has it: " + got + " or " + want, same);
        if (!same && ++wrong > MOST_WRONG) Check.end("SweepTest");
    }

    private String told(Object[] numbers) {
        return "'" + state + "' and then " + ofClass.getName() + Arrays.toString(numbers);
    }

    private long answer(Object[] numbers) throws IllegalAccessException {
        try {
            return ((Number) ofClass.invoke(x, numbers)).longValue();
        } catch (InvocationTargetException e) {
            System.out.println(told(numbers) + " threw " + e.getCause());
            return Long.MIN_VALUE;
        }
    }

    private void begin() throws ReflectiveOperationException {
        x = new TonguesDealt();
        model = new Model();
        left = BATCH;
        if (state.isEmpty()) return;
        for (String call : state.split("; ")) {
            String[] words = call.split(" ");
            Object[] numbers = new Object[words.length - 1];
            for (int i = 0; i < numbers.length; i++) numbers[i] = Integer.parseInt(words[i + 1]);
            for (Method m : methods()) {
                if (!m.getName().equals(words[0])) continue;
                long got = ((Number) m.invoke(x, numbers)).longValue();
                Check.due("ahead of a sweep: " + call, got, ((Number) inModel(m).invoke(model, numbers)).longValue());
            }
        }
    }
}
