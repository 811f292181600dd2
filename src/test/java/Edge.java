import java.lang.reflect.InvocationTargetException;
import java.lang.reflect.Method;
import java.lang.reflect.Modifier;
import java.util.Arrays;
import java.util.Comparator;

/**
 * What the tests of the promises' boundaries share. Such a test's class is named after its promise; each
 * of its methods that is not private is one case, on objects of its own, and is named after that case.
 */
abstract class Edge {
    static final int NONE = ShapeReader.NONE;
    static final int MIN = Integer.MIN_VALUE;
    static final int MAX = Integer.MAX_VALUE;

    static void run(Class<?> test) {
        Method[] methods = test.getDeclaredMethods();
        Arrays.sort(methods, Comparator.comparing(Method::getName));
        int cases = 0;
        for (Method m : methods) {
            if (isCase(m)) {
                cases++;
                Probe.currentCase = test.getSimpleName() + "." + m.getName() + ": ";
                runCase(m);
            }
        }
        Probe.currentCase = "";
        Probe.due(test.getSimpleName() + " has cases", 1, cases > 0 ? 1 : 0);
        Probe.finish(test.getSimpleName() + ": " + cases + " cases");
    }

    private static boolean isCase(Method m) {
        return Modifier.isStatic(m.getModifiers()) && !Modifier.isPrivate(m.getModifiers())
                && m.getParameterCount() == 0 && !m.isSynthetic();
    }

    private static void runCase(Method m) {
        int before = Probe.asked;
        try {
            m.invoke(null);
        } catch (InvocationTargetException e) {
            Probe.due("threw " + e.getCause(), 0, 1);
        } catch (IllegalAccessException e) {
            Probe.due("cannot be called", 0, 1);
        }
        Probe.due("asks for something", 1, Probe.asked > before ? 1 : 0);
    }

    static void due(String what, long want, long got) {
        Probe.due(what, want, got);
    }

    static void throwsDue(String what, Probe.Call call) {
        Probe.throwsDue(what, call);
    }

    /** A new object with these plans. */
    static Probe with(String plans) {
        Probe p = new Probe();
        int many = p.plans(plans);
        due("plans(" + plans + ") tells no fault", 1, many > 0 ? 1 : 0);
        return p;
    }

    /** The nearest numbers that are not among first to last, and an int's least and greatest. */
    static int[] outside(int first, int last) {
        return new int[] {first - 1, last + 1, MIN, MAX};
    }

    /** As outside(), but for the call's arguments among which NONE has a meaning of its own. */
    static int[] outsideButNone(int last) {
        return new int[] {-2, last + 1, MIN, MAX};
    }

    /** Signs one behind another, with a comma between two. */
    static String joined(String item, int many) {
        return many == 0 ? "" : (item + ",").repeat(many - 1) + item;
    }

    static String letter(int k) {
        return String.valueOf((char) ('a' + k));
    }
}
