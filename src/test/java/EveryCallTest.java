import java.lang.reflect.InvocationTargetException;
import java.lang.reflect.Method;
import java.lang.reflect.Modifier;
import java.util.NoSuchElementException;
import java.util.Set;
import java.util.function.Supplier;

/** Every call of the face with near and far arguments in every mix: only those that may throw do, and only what they may. */
public final class EveryCallTest extends Edge {
    private static final int[] ARGUMENTS = {MIN, MIN + 1, -2, -1, 0, 1, 3, 20, MAX - 1, MAX};
    private static final Set<String> MAY_THROW = Set.of("byteAt", "node", "value", "letter");
    /** An object is good for 512 calls; its making takes some of them. */
    private static final int CALLS_OF_ONE = 300;

    public static void main(String[] args) {
        run(EveryCallTest.class);
    }

    static void ofANewObject() {
        everyCall(ShapeReader::new);
    }

    static void ofOneWithNodes() {
        everyCall(Watch::nodes);
    }

    static void ofOneWithAFailure() {
        everyCall(Watch::failed);
    }

    static void ofOneWithAFullTape() {
        everyCall(Watch::fullTape);
    }

    /** What these answer is free, but none of them may throw what it may not. */
    static void behindTheFiveHundredAndTwelfthCall() {
        ShapeReader r = Watch.failed();
        int calls = 0;
        for (int round = 0; round < 40; round++) {
            for (Method m : ShapeReader.class.getDeclaredMethods()) {
                if (Modifier.isPublic(m.getModifiers())) {
                    Object[] arguments = new Object[m.getParameterCount()];
                    for (int k = 0; k < arguments.length; k++) {
                        arguments[k] = ARGUMENTS[(round * 7 + k * 3 + round / 10) % ARGUMENTS.length];
                    }
                    call(r, m, arguments);
                    calls++;
                }
            }
        }
        due("calls beyond 512", 1, calls > 600 ? 1 : 0);
    }

    private static void everyCall(Supplier<ShapeReader> make) {
        for (Method m : ShapeReader.class.getDeclaredMethods()) {
            if (Modifier.isPublic(m.getModifiers())) {
                everyMix(make, m);
            }
        }
    }

    private static void everyMix(Supplier<ShapeReader> make, Method m) {
        int many = m.getParameterCount();
        int mixes = 1;
        for (int k = 0; k < many; k++) {
            mixes *= ARGUMENTS.length;
        }
        int step = many > 3 ? 7 : 1;
        ShapeReader r = null;
        int calls = 0;
        for (int mix = 0; mix < mixes; mix += step) {
            if (calls % CALLS_OF_ONE == 0) {
                r = make.get();
            }
            calls++;
            Object[] arguments = new Object[many];
            int rest = mix;
            for (int k = 0; k < many; k++) {
                arguments[k] = ARGUMENTS[rest % ARGUMENTS.length];
                rest /= ARGUMENTS.length;
            }
            call(r, m, arguments);
        }
    }

    private static void call(ShapeReader r, Method m, Object[] arguments) {
        String thrown = "";
        try {
            m.invoke(r, arguments);
        } catch (InvocationTargetException e) {
            boolean may = MAY_THROW.contains(m.getName()) && e.getCause().getClass() == NoSuchElementException.class;
            thrown = may ? "" : e.getCause().toString();
        } catch (IllegalAccessException e) {
            thrown = e.toString();
        }
        due(m.getName() + java.util.Arrays.toString(arguments) + " throws " + thrown, 0, thrown.isEmpty() ? 0 : 1);
    }
}
