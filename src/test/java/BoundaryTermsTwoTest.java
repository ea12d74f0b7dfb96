/** "Terms": the OPERATIONS OF TWO operands. */
public final class BoundaryTermsTwoTest {
    private static final String HEAD = "OPERATIONS OF TWO operands a, b of the same KIND (for 27, 28, 29 b is an INT), into r of that"
        + " KIND if nothing else is said:";
    private static final String ANY_KIND = "(of any KIND;";
    private static final String WRAP = "INT and LONG wrap;";
    private static final String REMAINDER = "REM of FLOAT and DOUBLE is what is left of a after b is taken away truncated a / b times,"
        + " with the sign of a);";
    private static final String BY_ZERO = "DIV and REM of INT and LONG by 0 throw.";
    private static final String LEAST_GREATEST = "25 LEAST 26 GREATEST";
    private static final String SHIFTS = "27 SHL 28 SHR 29 USHR (of INT and LONG,";
    private static final String LOW_BITS = "by the low 5 or 6 bits of b).";
    private static final String AND_OR_XOR = "30 AND 31 OR 32 XOR (of INT and LONG).";
    private static final String COMPARED_KINDS = "33 CMPL 34 CMPG (of LONG, FLOAT, DOUBLE):";
    private static final String COMPARED = "an INT -1, 0, 1 for a less, equal, greater;";

    private static final long INT_MIN = Integer.MIN_VALUE;
    private static final long INT_MAX = Integer.MAX_VALUE;
    private static final long LONG_MIN = Long.MIN_VALUE;
    private static final long LONG_MAX = Long.MAX_VALUE;
    private static final float INFINITE_FLOAT = Float.POSITIVE_INFINITY;
    private static final double INFINITE_DOUBLE = Double.POSITIVE_INFINITY;

    public static void main(String[] args) {
        Boundary.run(BoundaryTermsTwoTest.class);
    }

    private static void ints(int operation, long a, long b, long result) {
        Boundary.two(operation, Codes.INT, a, b, result);
    }

    private static void longs(int operation, long a, long b, long result) {
        Boundary.two(operation, Codes.LONG, a, b, result);
    }

    /** A number in both formats; what comes out must be a FLOAT. */
    private static void floating(int operation, float a, float b, float result) {
        Boundary.floats(operation, a, b, result);
        Boundary.doubles(operation, a, b, result);
    }

    private static boolean isShift(int operation) {
        return operation >= Codes.SHL && operation <= Codes.USHR;
    }

    @Sentence(at = Sentence.TERMS, says = HEAD)
    static void operandsOfTwoKindsAreRefused() {
        for (int operation = 20; operation <= 34; operation++) {
            for (int pair = 0; pair < 16; pair++) {
                int number = operation;
                int a = pair / 4;
                int b = pair % 4;
                if (a != b && !(isShift(operation) && a == Codes.LONG && b == Codes.INT)) {
                    Boundary.refused("two(" + operation + ") of the KINDS " + a + " and " + b, Given::busy, x -> x.two(number, 6, a, b));
                }
            }
        }
    }

    @Sentence(at = Sentence.TERMS, says = HEAD)
    static void aShiftTakesAnIntAsB() {
        for (int operation = Codes.SHL; operation <= Codes.USHR; operation++) {
            int number = operation;
            ShadowMachine x = Given.busy();
            Check.due("an INT shifted by an INT", x.two(operation, 6, 0, 4), ShadowMachine.OK);
            Check.due("kind(6)", x.kind(6), Codes.INT);
            Check.due("a LONG shifted by an INT", x.two(operation, 6, 1, 4), ShadowMachine.OK);
            Check.due("kind(6)", x.kind(6), Codes.LONG);
            Boundary.refused("an INT shifted by a LONG", Given::busy, y -> y.two(number, 6, 0, 1));
            Boundary.refused("a LONG shifted by a LONG", Given::busy, y -> y.two(number, 6, 1, 1));
        }
    }

    @Sentence(at = Sentence.TERMS, says = HEAD)
    static void intoAnOperandItself() {
        ShadowMachine x = Given.constants(Codes.LONG, LONG_MAX, 1);
        x.two(Codes.ADD, 0, 0, 1);
        Check.register(x, 0, Codes.LONG, LONG_MIN, 64);
        x.two(Codes.SUB, 1, 0, 1);
        Check.register(x, 1, Codes.LONG, LONG_MAX, 64);
        x.two(Codes.XOR, 1, 1, 1);
        Check.register(x, 1, Codes.LONG, 0, 64);
    }

    @Sentence(at = Sentence.TERMS, says = "20 ADD")
    static void addTooLargeIsInfinite() {
        Boundary.floats(Codes.ADD, Float.MAX_VALUE, 0x1p102f, Float.MAX_VALUE);
        Boundary.floats(Codes.ADD, Float.MAX_VALUE, 0x1p103f, INFINITE_FLOAT);
        Boundary.floats(Codes.ADD, -Float.MAX_VALUE, -0x1p103f, -INFINITE_FLOAT);
        Boundary.doubles(Codes.ADD, Double.MAX_VALUE, 0x1p969, Double.MAX_VALUE);
        Boundary.doubles(Codes.ADD, Double.MAX_VALUE, 0x1p970, INFINITE_DOUBLE);
        floating(Codes.ADD, INFINITE_FLOAT, -1f, INFINITE_FLOAT);
        floating(Codes.ADD, INFINITE_FLOAT, -INFINITE_FLOAT, Float.NaN);
        floating(Codes.ADD, Float.NaN, INFINITE_FLOAT, Float.NaN);
    }

    @Sentence(at = Sentence.TERMS, says = "20 ADD")
    static void addOfZeros() {
        floating(Codes.ADD, 0f, -0f, 0f);
        floating(Codes.ADD, -0f, -0f, -0f);
        floating(Codes.ADD, 1f, -1f, 0f);
        floating(Codes.ADD, -0f, -1f, -1f);
    }

    @Sentence(at = Sentence.TERMS, says = "20 ADD")
    static void addTiesToEvenAndKeepsTheSmallest() {
        Boundary.floats(Codes.ADD, 1f, 0x1p-24f, 1f);
        Boundary.floats(Codes.ADD, 1f, 0x1.000002p-24f, 0x1.000002p0f);
        Boundary.floats(Codes.ADD, 0x1.000002p0f, 0x1p-24f, 0x1.000004p0f);
        Boundary.floats(Codes.ADD, Float.MIN_VALUE, Float.MIN_VALUE, 0x1p-148f);
        Boundary.doubles(Codes.ADD, 1.0, 0x1p-53, 1.0);
        Boundary.doubles(Codes.ADD, 1.0, 0x1.0000000000001p-53, 0x1.0000000000001p0);
        Boundary.doubles(Codes.ADD, Double.MIN_VALUE, Double.MIN_VALUE, 0x1p-1073);
        Boundary.doubles(Codes.ADD, 1.0, Double.MIN_VALUE, 1.0);
    }

    @Sentence(at = Sentence.TERMS, says = "21 SUB")
    static void subOfZerosInfinitiesAndNeighbours() {
        floating(Codes.SUB, 0f, 0f, 0f);
        floating(Codes.SUB, -0f, 0f, -0f);
        floating(Codes.SUB, 0f, -0f, 0f);
        floating(Codes.SUB, INFINITE_FLOAT, INFINITE_FLOAT, Float.NaN);
        floating(Codes.SUB, -INFINITE_FLOAT, INFINITE_FLOAT, -INFINITE_FLOAT);
        floating(Codes.SUB, 1f, Float.NaN, Float.NaN);
        Boundary.floats(Codes.SUB, Float.MIN_NORMAL, Float.MIN_VALUE, 0x0.fffffep-126f);
        Boundary.floats(Codes.SUB, 1f, 0x1.fffffep-1f, 0x1p-24f);
        Boundary.doubles(Codes.SUB, Double.MIN_NORMAL, Double.MIN_VALUE, 0x0.fffffffffffffp-1022);
        Boundary.doubles(Codes.SUB, 1.0, 0x1.fffffffffffffp-1, 0x1p-53);
        Boundary.doubles(Codes.SUB, -Double.MAX_VALUE, 0x1p970, -INFINITE_DOUBLE);
    }

    @Sentence(at = Sentence.TERMS, says = "22 MUL")
    static void mulTooLargeAndTooSmall() {
        Boundary.floats(Codes.MUL, 0x1p64f, 0x1p64f, INFINITE_FLOAT);
        Boundary.floats(Codes.MUL, Float.MAX_VALUE, -2f, -INFINITE_FLOAT);
        Boundary.floats(Codes.MUL, Float.MIN_VALUE, 0.5f, 0f);
        Boundary.floats(Codes.MUL, Float.MIN_VALUE, -0.5f, -0f);
        Boundary.floats(Codes.MUL, Float.MIN_VALUE, 0x1.000002p-1f, Float.MIN_VALUE);
        Boundary.floats(Codes.MUL, 3 * Float.MIN_VALUE, 0.5f, 2 * Float.MIN_VALUE);
        Boundary.doubles(Codes.MUL, 0x1p512, 0x1p512, INFINITE_DOUBLE);
        Boundary.doubles(Codes.MUL, Double.MIN_VALUE, 0.5, 0.0);
        Boundary.doubles(Codes.MUL, -Double.MIN_VALUE, 0.5, -0.0);
        Boundary.doubles(Codes.MUL, Double.MIN_VALUE, 0x1.0000000000001p-1, Double.MIN_VALUE);
        floating(Codes.MUL, INFINITE_FLOAT, 0f, Float.NaN);
        floating(Codes.MUL, -0f, INFINITE_FLOAT, Float.NaN);
        floating(Codes.MUL, -0f, 0f, -0f);
        floating(Codes.MUL, INFINITE_FLOAT, -1f, -INFINITE_FLOAT);
    }

    @Sentence(at = Sentence.TERMS, says = "22 MUL")
    static void mulOfANan() {
        floating(Codes.MUL, Float.NaN, 2f, Float.NaN);
        floating(Codes.MUL, 2f, Float.NaN, Float.NaN);
        floating(Codes.MUL, Float.NaN, 0f, Float.NaN);
        floating(Codes.MUL, -INFINITE_FLOAT, Float.NaN, Float.NaN);
    }

    @Sentence(at = Sentence.TERMS, says = "22 MUL")
    static void mulAtAndBesideATie() {
        Boundary.doubles(Codes.MUL, 1.5, 0x1.0000000000001p0, 0x1.8000000000002p0);
        Boundary.doubles(Codes.MUL, 1.5, 0x1.0000000000003p0, 0x1.8000000000004p0);
        // 2.5 and a little more in the last place
        Boundary.doubles(Codes.MUL, 0x1.8000000000001p0, 0x1.0000000000001p0, 0x1.8000000000003p0);
        Boundary.doubles(Codes.MUL, 0x1.0000000000001p0, 0x1.0000000000001p0, 0x1.0000000000002p0);
        Boundary.doubles(Codes.MUL, 0x1.fffffffffffffp0, 0x1.fffffffffffffp0, 0x1.ffffffffffffep1);
        Boundary.doubles(Codes.MUL, 0x1.fffffffffffffp0, 0x1.0000000000001p0, 2.0);
        Boundary.doubles(Codes.MUL, 0.1, 0.1, 0.010000000000000002);
        Boundary.floats(Codes.MUL, 1.5f, 0x1.000002p0f, 0x1.800004p0f);
        Boundary.floats(Codes.MUL, 0x1.800002p0f, 0x1.000002p0f, 0x1.800006p0f);
        Boundary.floats(Codes.MUL, 0x1.fffffep0f, 0x1.fffffep0f, 0x1.fffffcp1f);
        Boundary.floats(Codes.MUL, 0x1.fffffep0f, 0x1.000002p0f, 2f);
    }

    @Sentence(at = Sentence.TERMS, says = "22 MUL")
    static void mulFarTooSmall() {
        for (int down = 1; down <= 1022; down++) {
            Boundary.doubles(Codes.MUL, Double.MIN_VALUE, Math.scalb(-1.0, -down), -0.0);
            Boundary.doubles(Codes.MUL, 0x1.fffffffffffffp-1022, Math.scalb(1.0, -down), Math.scalb(0x1.fffffffffffffp-1022, -down));
        }
        for (int down = 1; down <= 126; down++) {
            Boundary.floats(Codes.MUL, Float.MIN_VALUE, Math.scalb(-1f, -down), -0f);
            Boundary.floats(Codes.MUL, 0x1.fffffep-126f, Math.scalb(1f, -down), Math.scalb(0x1.fffffep-126f, -down));
        }
    }

    @Sentence(at = Sentence.TERMS, says = "23 DIV")
    static void divTruncatesTowardsZero() {
        ints(Codes.DIV, -7, 2, -3);
        ints(Codes.DIV, 7, -2, -3);
        ints(Codes.DIV, -7, -2, 3);
        ints(Codes.DIV, INT_MIN, 1, INT_MIN);
        ints(Codes.DIV, 0, -5, 0);
        longs(Codes.DIV, -7, 2, -3);
        longs(Codes.DIV, LONG_MIN, LONG_MAX, -1);
    }

    @Sentence(at = Sentence.TERMS, says = "23 DIV")
    static void divOfFloatingNumbersByZeroThrowsNothing() {
        floating(Codes.DIV, 1f, 0f, INFINITE_FLOAT);
        floating(Codes.DIV, 1f, -0f, -INFINITE_FLOAT);
        floating(Codes.DIV, -1f, -0f, INFINITE_FLOAT);
        floating(Codes.DIV, 0f, 0f, Float.NaN);
        floating(Codes.DIV, INFINITE_FLOAT, -0f, -INFINITE_FLOAT);
        floating(Codes.DIV, Float.NaN, 0f, Float.NaN);
    }

    @Sentence(at = Sentence.TERMS, says = "23 DIV")
    static void divTooLargeAndTooSmall() {
        floating(Codes.DIV, INFINITE_FLOAT, INFINITE_FLOAT, Float.NaN);
        floating(Codes.DIV, -1f, INFINITE_FLOAT, -0f);
        Boundary.floats(Codes.DIV, Float.MAX_VALUE, 0.5f, INFINITE_FLOAT);
        Boundary.floats(Codes.DIV, Float.MIN_VALUE, 2f, 0f);
        Boundary.floats(Codes.DIV, Float.MIN_VALUE, 0x1.fffffep0f, Float.MIN_VALUE);
        Boundary.floats(Codes.DIV, 1f, 3f, 0x1.555556p-2f);
        Boundary.doubles(Codes.DIV, Double.MAX_VALUE, 0.5, INFINITE_DOUBLE);
        Boundary.doubles(Codes.DIV, Double.MIN_VALUE, 2.0, 0.0);
        Boundary.doubles(Codes.DIV, Double.MIN_VALUE, 0x1.fffffffffffffp0, Double.MIN_VALUE);
        Boundary.doubles(Codes.DIV, 1.0, 3.0, 0x1.5555555555555p-2);
    }

    @Sentence(at = Sentence.TERMS, says = "23 DIV")
    static void divALittleAboveATie() {
        Boundary.doubles(Codes.DIV, 1.0, 75.0, 0x1.b4e81b4e81b4fp-7);
        Boundary.doubles(Codes.DIV, 1.0, 91.0, 0x1.6816816816817p-7);
        Boundary.doubles(Codes.DIV, 1.0, 99.0, 0x1.4afd6a052bf5bp-7);
        Boundary.doubles(Codes.DIV, -1.0, 123.0, -0x1.0a6810a6810a7p-7);
    }

    @Sentence(at = Sentence.TERMS, says = "23 DIV")
    static void divFarTooSmall() {
        for (int up = 1; up <= 1023; up++) {
            Boundary.doubles(Codes.DIV, Double.MIN_VALUE, Math.scalb(-1.0, up), -0.0);
            Boundary.doubles(Codes.DIV, 0x1.fffffffffffffp-1022, Math.scalb(1.0, up), Math.scalb(0x1.fffffffffffffp-1022, -up));
        }
        for (int up = 1; up <= 127; up++) {
            Boundary.floats(Codes.DIV, Float.MIN_VALUE, Math.scalb(-1f, up), -0f);
            Boundary.floats(Codes.DIV, 0x1.fffffep-126f, Math.scalb(1f, up), Math.scalb(0x1.fffffep-126f, -up));
        }
    }

    @Sentence(at = Sentence.TERMS, says = "24 REM")
    static void remOfIntAndLongHasTheSignOfA() {
        ints(Codes.REM, -7, 2, -1);
        ints(Codes.REM, 7, -2, 1);
        ints(Codes.REM, -6, 3, 0);
        ints(Codes.REM, INT_MIN, INT_MAX, -1);
        longs(Codes.REM, -7, 2, -1);
        longs(Codes.REM, LONG_MAX, LONG_MIN, LONG_MAX);
    }

    @Sentence(at = Sentence.TERMS, says = ANY_KIND)
    static void everyKindIsTaken() {
        for (int operation = 20; operation <= 26; operation++) {
            for (int kind = 0; kind < 4; kind++) {
                ShadowMachine x = Given.constants(kind, 1, 1);
                Check.due("two(" + operation + ") of KIND " + kind, x.two(operation, 2, 0, 1), ShadowMachine.OK);
                Check.due("kind(2)", x.kind(2), kind);
            }
        }
    }

    @Sentence(at = Sentence.TERMS, says = WRAP)
    static void addAndSubWrap() {
        ints(Codes.ADD, INT_MAX, 1, INT_MIN);
        ints(Codes.ADD, INT_MIN, -1, INT_MAX);
        ints(Codes.ADD, INT_MIN, INT_MIN, 0);
        ints(Codes.SUB, INT_MIN, 1, INT_MAX);
        ints(Codes.SUB, 0, INT_MIN, INT_MIN);
        longs(Codes.ADD, LONG_MAX, 1, LONG_MIN);
        longs(Codes.ADD, LONG_MIN, -1, LONG_MAX);
        longs(Codes.SUB, LONG_MIN, 1, LONG_MAX);
        longs(Codes.ADD, INT_MAX, 1, 2147483648L);
    }

    @Sentence(at = Sentence.TERMS, says = WRAP)
    static void mulWraps() {
        ints(Codes.MUL, 46341, 46341, -2147479015);
        ints(Codes.MUL, 65536, 65536, 0);
        ints(Codes.MUL, INT_MIN, -1, INT_MIN);
        ints(Codes.MUL, INT_MIN, INT_MIN, 0);
        ints(Codes.MUL, INT_MAX, INT_MAX, 1);
        longs(Codes.MUL, LONG_MIN, -1, LONG_MIN);
        longs(Codes.MUL, LONG_MAX, LONG_MAX, 1);
        longs(Codes.MUL, 3037000500L, 3037000500L, -9223372036709301616L);
    }

    @Sentence(at = Sentence.TERMS, says = WRAP)
    static void divAndRemOfTheLeastByMinusOneWrap() {
        ints(Codes.DIV, INT_MIN, -1, INT_MIN);
        ints(Codes.REM, INT_MIN, -1, 0);
        longs(Codes.DIV, LONG_MIN, -1, LONG_MIN);
        longs(Codes.REM, LONG_MIN, -1, 0);
        longs(Codes.DIV, INT_MIN, -1, 2147483648L);
    }

    @Sentence(at = Sentence.TERMS, says = REMAINDER)
    static void remainderHasTheSignOfA() {
        floating(Codes.REM, 5.5f, 2f, 1.5f);
        floating(Codes.REM, -5.5f, 2f, -1.5f);
        floating(Codes.REM, 5.5f, -2f, 1.5f);
        floating(Codes.REM, -5.5f, -2f, -1.5f);
        // the nearest whole number of times would leave -0.5
        floating(Codes.REM, 3.5f, 2f, 1.5f);
    }

    @Sentence(at = Sentence.TERMS, says = REMAINDER)
    static void remainderZeroHasTheSignOfA() {
        floating(Codes.REM, 6f, -2f, 0f);
        floating(Codes.REM, -6f, 2f, -0f);
        floating(Codes.REM, 0f, -2f, 0f);
        floating(Codes.REM, -0f, 2f, -0f);
    }

    @Sentence(at = Sentence.TERMS, says = REMAINDER)
    static void remainderOfZeroDivisorInfinitiesAndNan() {
        floating(Codes.REM, 5f, 0f, Float.NaN);
        floating(Codes.REM, 0f, -0f, Float.NaN);
        floating(Codes.REM, INFINITE_FLOAT, 2f, Float.NaN);
        floating(Codes.REM, INFINITE_FLOAT, INFINITE_FLOAT, Float.NaN);
        floating(Codes.REM, -5f, INFINITE_FLOAT, -5f);
        floating(Codes.REM, -0f, -INFINITE_FLOAT, -0f);
        floating(Codes.REM, Float.NaN, 2f, Float.NaN);
        floating(Codes.REM, 2f, Float.NaN, Float.NaN);
    }

    @Sentence(at = Sentence.TERMS, says = REMAINDER)
    static void remainderOfTheGreatestByTheSmallest() {
        Boundary.floats(Codes.REM, Float.MAX_VALUE, Float.MIN_VALUE, 0f);
        Boundary.floats(Codes.REM, Float.MIN_VALUE, Float.MAX_VALUE, Float.MIN_VALUE);
        Boundary.floats(Codes.REM, Float.MAX_VALUE, 3 * Float.MIN_VALUE, Float.MAX_VALUE % (3 * Float.MIN_VALUE));
        Boundary.doubles(Codes.REM, Double.MAX_VALUE, Double.MIN_VALUE, 0.0);
        Boundary.doubles(Codes.REM, Double.MIN_VALUE, Double.MAX_VALUE, Double.MIN_VALUE);
        Boundary.doubles(Codes.REM, -Double.MAX_VALUE, 3 * Double.MIN_VALUE, -Double.MAX_VALUE % (3 * Double.MIN_VALUE));
    }

    @Sentence(at = Sentence.TERMS, says = BY_ZERO)
    static void divAndRemByZeroThrow() {
        for (int operation = Codes.DIV; operation <= Codes.REM; operation++) {
            for (long a : new long[] {0, 1, -1, INT_MIN}) {
                for (int kind = Codes.INT; kind <= Codes.LONG; kind++) {
                    int number = operation;
                    int divided = kind;
                    String call = "two(" + operation + ") of " + a + " by 0, KIND " + kind;
                    Boundary.exception(call, () -> Given.constants(divided, a, 0), x -> x.two(number, 2, 0, 1), ShadowMachine.ARITHMETIC);
                }
            }
        }
    }

    @Sentence(at = Sentence.TERMS, says = BY_ZERO)
    static void divisorsBesideZeroThrowNothing() {
        ints(Codes.DIV, 5, 1, 5);
        ints(Codes.DIV, 5, -1, -5);
        ints(Codes.REM, 5, 1, 0);
        longs(Codes.DIV, 5, 1L << 32, 0);
        longs(Codes.REM, 5, 1L << 32, 5);
        longs(Codes.REM, 5, -1, 0);
    }

    @Sentence(at = Sentence.TERMS, says = LEAST_GREATEST)
    static void leastAndGreatestOfTheEnds() {
        ints(Codes.LEAST, INT_MIN, INT_MAX, INT_MIN);
        ints(Codes.GREATEST, INT_MIN, INT_MAX, INT_MAX);
        ints(Codes.LEAST, -1, -1, -1);
        longs(Codes.LEAST, LONG_MAX, LONG_MIN, LONG_MIN);
        longs(Codes.GREATEST, LONG_MAX, LONG_MIN, LONG_MAX);
        floating(Codes.LEAST, -INFINITE_FLOAT, INFINITE_FLOAT, -INFINITE_FLOAT);
        floating(Codes.GREATEST, -INFINITE_FLOAT, INFINITE_FLOAT, INFINITE_FLOAT);
        floating(Codes.LEAST, -1f, -2f, -2f);
        floating(Codes.GREATEST, -1f, -2f, -1f);
    }

    @Sentence(at = Sentence.TERMS, says = "(of FLOAT and DOUBLE: NaN if one is;")
    static void leastAndGreatestOfANan() {
        for (int operation = Codes.LEAST; operation <= Codes.GREATEST; operation++) {
            floating(operation, Float.NaN, 1f, Float.NaN);
            floating(operation, 1f, Float.NaN, Float.NaN);
            floating(operation, Float.NaN, INFINITE_FLOAT, Float.NaN);
            floating(operation, -INFINITE_FLOAT, Float.NaN, Float.NaN);
            floating(operation, Float.NaN, Float.NaN, Float.NaN);
        }
    }

    @Sentence(at = Sentence.TERMS, says = "-0 is less than 0).")
    static void leastAndGreatestOfTheZeros() {
        floating(Codes.LEAST, 0f, -0f, -0f);
        floating(Codes.LEAST, -0f, 0f, -0f);
        floating(Codes.LEAST, 0f, 0f, 0f);
        floating(Codes.GREATEST, 0f, -0f, 0f);
        floating(Codes.GREATEST, -0f, 0f, 0f);
        floating(Codes.GREATEST, -0f, -0f, -0f);
    }

    @Sentence(at = Sentence.TERMS, says = SHIFTS)
    static void shiftsOfTheEnds() {
        ints(Codes.SHL, 1, 31, INT_MIN);
        ints(Codes.SHL, 3, 31, INT_MIN);
        ints(Codes.SHR, INT_MIN, 31, -1);
        ints(Codes.USHR, INT_MIN, 31, 1);
        ints(Codes.USHR, -1, 1, INT_MAX);
        shiftsLong(Codes.SHL, 1, 63, LONG_MIN);
        shiftsLong(Codes.SHR, LONG_MIN, 63, -1);
        shiftsLong(Codes.USHR, LONG_MIN, 63, 1);
        shiftsLong(Codes.USHR, -1, 1, LONG_MAX);
    }

    @Sentence(at = Sentence.TERMS, says = SHIFTS)
    static void shiftsOfFloatAndDoubleAreRefused() {
        for (int operation = Codes.SHL; operation <= Codes.USHR; operation++) {
            int number = operation;
            Boundary.refused("a FLOAT shifted", Given::busy, x -> x.two(number, 6, 2, 0));
            Boundary.refused("a DOUBLE shifted", Given::busy, x -> x.two(number, 6, 3, 0));
        }
    }

    private static void shiftsLong(int operation, long a, long b, long result) {
        ShadowMachine x = Given.constants(Codes.LONG, a);
        x.constant(1, Codes.INT, b);
        Check.due("two(" + operation + ") of " + a + " by " + b, x.two(operation, 2, 0, 1), ShadowMachine.OK);
        Check.register(x, 2, Codes.LONG, result, 64);
    }

    @Sentence(at = Sentence.TERMS, says = LOW_BITS)
    static void anIntIsShiftedByFiveBits() {
        ints(Codes.SHL, 5, 0, 5);
        ints(Codes.SHL, 5, 32, 5);
        ints(Codes.SHL, 1, 33, 2);
        ints(Codes.SHL, 1, -1, INT_MIN);
        ints(Codes.SHR, -8, 32, -8);
        ints(Codes.SHR, -8, 65, -4);
        ints(Codes.SHR, -8, INT_MIN, -8);
        ints(Codes.USHR, -1, 32, -1);
        ints(Codes.USHR, -1, 63, 1);
        ints(Codes.USHR, -1, -32, -1);
    }

    @Sentence(at = Sentence.TERMS, says = LOW_BITS)
    static void aLongIsShiftedBySixBits() {
        shiftsLong(Codes.SHL, 5, 0, 5);
        shiftsLong(Codes.SHL, 1, 32, 1L << 32);
        shiftsLong(Codes.SHL, 5, 64, 5);
        shiftsLong(Codes.SHL, 1, -1, LONG_MIN);
        shiftsLong(Codes.SHR, -8, 64, -8);
        shiftsLong(Codes.SHR, -8, 65, -4);
        shiftsLong(Codes.SHR, LONG_MIN, 32, INT_MIN);
        shiftsLong(Codes.USHR, -1, 64, -1);
        shiftsLong(Codes.USHR, -1, -1, 1);
        shiftsLong(Codes.USHR, -1, INT_MIN, -1);
    }

    @Sentence(at = Sentence.TERMS, says = AND_OR_XOR)
    static void andOrXorOfTheEnds() {
        ints(Codes.AND, INT_MIN, INT_MAX, 0);
        ints(Codes.OR, INT_MIN, INT_MAX, -1);
        ints(Codes.XOR, INT_MIN, -1, INT_MAX);
        longs(Codes.AND, LONG_MIN, LONG_MAX, 0);
        longs(Codes.OR, LONG_MIN, LONG_MAX, -1);
        longs(Codes.XOR, LONG_MIN, -1, LONG_MAX);
    }

    @Sentence(at = Sentence.TERMS, says = AND_OR_XOR)
    static void andOrXorOfFloatAndDoubleAreRefused() {
        for (int operation = Codes.AND; operation <= Codes.XOR; operation++) {
            int number = operation;
            Boundary.refused("two(" + operation + ") of FLOATS", Given::busy, x -> x.two(number, 6, 2, 2));
            Boundary.refused("two(" + operation + ") of DOUBLES", Given::busy, x -> x.two(number, 6, 3, 3));
        }
    }

    private static void compares(int kind, long a, long b, int cmpl, int cmpg) {
        ShadowMachine x = Given.constants(kind, a, b);
        Check.due("CMPL", x.two(Codes.CMPL, 2, 0, 1), ShadowMachine.OK);
        Check.register(x, 2, Codes.INT, cmpl, 64);
        Check.due("CMPG", x.two(Codes.CMPG, 2, 0, 1), ShadowMachine.OK);
        Check.register(x, 2, Codes.INT, cmpg, 64);
    }

    private static void comparesFloating(float a, float b, int cmpl, int cmpg) {
        compares(Codes.FLOAT, Codes.bitsOf(a), Codes.bitsOf(b), cmpl, cmpg);
        compares(Codes.DOUBLE, Codes.bitsOf((double) a), Codes.bitsOf((double) b), cmpl, cmpg);
    }

    @Sentence(at = Sentence.TERMS, says = COMPARED_KINDS)
    static void comparedIntsAreRefused() {
        Boundary.refused("CMPL of INTS", Given::busy, x -> x.two(Codes.CMPL, 6, 0, 4));
        Boundary.refused("CMPG of INTS", Given::busy, x -> x.two(Codes.CMPG, 6, 0, 4));
    }

    @Sentence(at = Sentence.TERMS, says = COMPARED)
    static void comparedLongsOfTheEnds() {
        compares(Codes.LONG, LONG_MIN, LONG_MAX, -1, -1);
        compares(Codes.LONG, LONG_MAX, LONG_MIN, 1, 1);
        compares(Codes.LONG, LONG_MIN, LONG_MIN, 0, 0);
        compares(Codes.LONG, 1L << 32, 0, 1, 1);
        compares(Codes.LONG, -1, 0, -1, -1);
    }

    @Sentence(at = Sentence.TERMS, says = COMPARED)
    static void comparedFloatingNumbersOfTheEnds() {
        comparesFloating(-INFINITE_FLOAT, INFINITE_FLOAT, -1, -1);
        comparesFloating(INFINITE_FLOAT, INFINITE_FLOAT, 0, 0);
        comparesFloating(INFINITE_FLOAT, Float.MAX_VALUE, 1, 1);
        comparesFloating(-INFINITE_FLOAT, -Float.MAX_VALUE, -1, -1);
        comparesFloating(Float.MIN_VALUE, 0f, 1, 1);
        comparesFloating(-Float.MIN_VALUE, -0f, -1, -1);
        comparesFloating(-Float.MIN_VALUE, Float.MIN_VALUE, -1, -1);
        comparesFloating(-1f, -2f, 1, 1);
    }

    @Sentence(at = Sentence.TERMS, says = "with NaN -1 (CMPL) or 1 (CMPG);")
    static void comparedWithNan() {
        comparesFloating(Float.NaN, 1f, -1, 1);
        comparesFloating(1f, Float.NaN, -1, 1);
        comparesFloating(Float.NaN, Float.NaN, -1, 1);
        comparesFloating(Float.NaN, INFINITE_FLOAT, -1, 1);
        comparesFloating(-INFINITE_FLOAT, Float.NaN, -1, 1);
    }

    @Sentence(at = Sentence.TERMS, says = "0 and -0 are equal.")
    static void comparedZeros() {
        comparesFloating(0f, -0f, 0, 0);
        comparesFloating(-0f, 0f, 0, 0);
        comparesFloating(0f, 0f, 0, 0);
        comparesFloating(-0f, -0f, 0, 0);
    }
}
