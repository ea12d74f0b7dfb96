import java.lang.reflect.InvocationTargetException;
import java.lang.reflect.Method;
import java.util.ArrayList;
import java.util.Comparator;
import java.util.List;
import java.util.function.Supplier;
import java.util.function.ToLongFunction;

/** Runs the tests of a class that are marked with a Sentence, and asks what several of them ask. */
final class Boundary {
    private Boundary() {
    }

    static List<Method> marked(Class<?> tests) {
        List<Method> methods = new ArrayList<>();
        for (Method method : tests.getDeclaredMethods()) {
            if (method.isAnnotationPresent(Sentence.class)) {
                methods.add(method);
            }
        }
        methods.sort(Comparator.comparing(Method::getName));
        return methods;
    }

    static void run(Class<?> tests) {
        for (Method method : marked(tests)) {
            Sentence sentence = method.getAnnotation(Sentence.class);
            Check.begin(method.getName() + " (" + sentence.at() + ", \"" + sentence.says() + "\"): ");
            int before = Check.asked();
            invoke(method);
            Check.holds("the test asks something", Check.asked() > before);
        }
        Check.end();
    }

    private static void invoke(Method method) {
        try {
            method.invoke(null);
        } catch (InvocationTargetException thrown) {
            thrown.getCause().printStackTrace(System.out);
            Check.holds("nothing is thrown", false);
        } catch (IllegalAccessException thrown) {
            Check.holds("the test can be called", false);
        }
    }

    /** The numbers beside a range, and the farthest from it. */
    static int[] beside(int first, int last) {
        return new int[] {first - 1, last + 1, Integer.MIN_VALUE, Integer.MAX_VALUE};
    }

    /** A call that is REFUSED, and nothing of the object is changed by it. */
    static void refused(String what, Supplier<ShadowMachine> given, ToLongFunction<ShadowMachine> call) {
        unchanged(what, given, call, ShadowMachine.REFUSED);
    }

    static void unchanged(String what, Supplier<ShadowMachine> given, ToLongFunction<ShadowMachine> call, long answer) {
        ShadowMachine x = given.get();
        Check.due(what, call.applyAsLong(x), answer);
        Check.holds(what + " changes nothing", Check.state(x).equals(Check.state(given.get())));
    }

    /** A call that answers an EXCEPTION: that is counted, and nothing else of the object is changed. */
    static void exception(String what, Supplier<ShadowMachine> given, ToLongFunction<ShadowMachine> call, int answer) {
        ShadowMachine x = given.get();
        int before = x.count(2);
        Check.due(what, call.applyAsLong(x), answer);
        Check.due(what + " is counted", x.count(2), before + 1);
        String due = Check.stateWithoutExceptions(given.get());
        Check.holds(what + " changes nothing else", Check.stateWithoutExceptions(x).equals(due));
    }

    /** An OPERATION OF ONE of a constant, into another REGISTER. */
    static void one(int operation, int kind, long bits, int resultKind, long result) {
        ShadowMachine x = Given.constants(kind, bits);
        Check.due("one(" + operation + ") of the BITS " + bits, x.one(operation, 7, 0), ShadowMachine.OK);
        Check.register(x, 7, resultKind, result, 64);
    }

    /** An OPERATION OF TWO of constants of one KIND, into a REGISTER that gets this KIND. */
    static void two(int operation, int kind, long a, long b, long result) {
        ShadowMachine x = Given.constants(kind, a, b);
        Check.due("two(" + operation + ") of the BITS " + a + " and " + b, x.two(operation, 7, 0, 1), ShadowMachine.OK);
        Check.register(x, 7, kind, result, 64);
    }

    static void floats(int operation, float a, float b, float result) {
        two(operation, Codes.FLOAT, Codes.bitsOf(a), Codes.bitsOf(b), Codes.bitsOf(result));
    }

    static void doubles(int operation, double a, double b, double result) {
        two(operation, Codes.DOUBLE, Codes.bitsOf(a), Codes.bitsOf(b), Codes.bitsOf(result));
    }
}
