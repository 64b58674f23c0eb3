import java.lang.reflect.InvocationTargetException;
import java.lang.reflect.Method;
import java.util.Arrays;
import java.util.Comparator;
import java.util.function.Supplier;

/** Counts what is wrong in one test class, and tells it. */
final class Check {
    private static int wrong = 0;
    private static int checks = 0;

    private Check() { }

    interface Call {
        void run();
    }

    static void due(String what, Object got, Object want) {
        checks++;
        if (!got.equals(want)) {
            wrong++;
            if (wrong <= 30) System.out.println("  " + what + " answered " + got + ", due is " + want);
        }
    }

    /** The call is due to throw exactly that, and nothing below it. */
    static void dueThrow(String what, Class<? extends RuntimeException> want, Call call) {
        due(what, thrownBy(() -> { call.run(); return "nothing"; }), want.getSimpleName());
    }

    static void noEntry(String what, Call call) {
        dueThrow(what, IndexOutOfBoundsException.class, call);
    }

    static void badArgument(String what, Call call) {
        dueThrow(what, IllegalArgumentException.class, call);
    }

    static void badState(String what, Call call) {
        dueThrow(what, IllegalStateException.class, call);
    }

    /** The answer, or the name of what was thrown. */
    static Object thrownBy(Supplier<Object> call) {
        try {
            return call.get();
        } catch (RuntimeException e) {
            return e.getClass().getSimpleName();
        }
    }

    /** Runs the tests of a class: its methods without arguments and without an answer. */
    static void runAll(Class<?> tests) throws IllegalAccessException {
        Method[] methods = tests.getDeclaredMethods();
        Arrays.sort(methods, Comparator.comparing(Method::getName));
        for (Method m : methods) {
            if (m.isSynthetic() || m.getParameterCount() > 0 || m.getReturnType() != void.class) continue;
            m.setAccessible(true);
            int before = wrong;
            try {
                m.invoke(null);
            } catch (InvocationTargetException e) {
                due(m.getName(), e.getCause(), "no exception");
            }
            if (wrong > before) System.out.println("  in " + tests.getName() + "." + m.getName());
        }
        end(tests.getName());
    }

    static void end(String name) {
        System.out.println(name + ": " + checks + " checks, " + wrong + " wrong");
        if (wrong > 0) System.exit(1);
    }
}
