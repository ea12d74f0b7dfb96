/** "Terms": the OPERATIONS OF ONE operand. */
public final class BoundaryTermsOneTest {
    private static final String HEAD = "OPERATIONS OF ONE operand a, into r (as the instructions of these names in the Java virtual"
        + " machine):";
    private static final String KIND_BEFORE = "(a must be of the KIND before the 2;";
    private static final String KIND_BEHIND = "r gets the one behind it, b, c, s giving INTs).";
    private static final String NEG = "15 NEG: a of any KIND.";
    private static final String ABSOLUTE = "16 ABSOLUTE: a of any KIND, the least INT and LONG staying, FLOAT and DOUBLE without sign.";
    private static final String TO_BITS = "17 TO BITS: a FLOAT gives an INT, a DOUBLE a LONG of its BITS.";
    private static final String FROM_BITS = "18 FROM BITS: the INT or LONG read so gives a FLOAT or DOUBLE.";

    private static final long INT_MIN = Integer.MIN_VALUE;
    private static final long INT_MAX = Integer.MAX_VALUE;
    private static final long LONG_MIN = Long.MIN_VALUE;
    private static final long LONG_MAX = Long.MAX_VALUE;
    private static final long FLOAT_NAN = 0x7FC00000L;
    private static final long DOUBLE_NAN = 0x7FF8000000000000L;
    private static final long FLOAT_INFINITY = 0x7F800000L;
    private static final long MINUS_FLOAT_INFINITY = 0xFFFFFFFFFF800000L;
    private static final long DOUBLE_INFINITY = 0x7FF0000000000000L;
    private static final long MINUS_DOUBLE_INFINITY = 0xFFF0000000000000L;
    private static final long MINUS_FLOAT_ZERO = INT_MIN;
    private static final long MINUS_DOUBLE_ZERO = LONG_MIN;

    private static final String[] NAMES = {
        "i2l", "i2f", "i2d", "l2i", "l2f", "l2d", "f2i", "f2l", "f2d", "d2i", "d2l", "d2f", "i2b", "i2c", "i2s"
    };

    public static void main(String[] args) {
        Boundary.run(BoundaryTermsOneTest.class);
    }

    private static void fromInt(int operation, long number, int kind, long result) {
        Boundary.one(operation, Codes.INT, number, kind, result);
    }

    private static void fromLong(int operation, long number, int kind, long result) {
        Boundary.one(operation, Codes.LONG, number, kind, result);
    }

    private static void fromFloat(int operation, float number, int kind, long result) {
        Boundary.one(operation, Codes.FLOAT, Codes.bitsOf(number), kind, result);
    }

    private static void fromDouble(int operation, double number, int kind, long result) {
        Boundary.one(operation, Codes.DOUBLE, Codes.bitsOf(number), kind, result);
    }

    @Sentence(at = Sentence.TERMS, says = HEAD)
    static void intoTheOperandItself() {
        ShadowMachine x = Given.inputs(Codes.INT, INT_MIN);
        Check.due("one(i2l, 0, 0)", x.one(Codes.I2L, 0, 0), ShadowMachine.OK);
        Check.register(x, 0, Codes.LONG, INT_MIN, 65);
    }

    @Sentence(at = Sentence.TERMS, says = HEAD)
    static void intoAnotherRegisterTheOperandStays() {
        ShadowMachine x = Given.inputs(Codes.INT, INT_MIN);
        x.one(Codes.NEG, 7, 0);
        Check.register(x, 0, Codes.INT, INT_MIN, 65);
        Check.register(x, 7, Codes.INT, INT_MIN, 65);
    }

    @Sentence(at = Sentence.TERMS, says = "0 i2l")
    static void i2lKeepsTheSign() {
        fromInt(Codes.I2L, INT_MIN, Codes.LONG, INT_MIN);
        fromInt(Codes.I2L, -1, Codes.LONG, -1);
        fromInt(Codes.I2L, INT_MAX, Codes.LONG, INT_MAX);
    }

    @Sentence(at = Sentence.TERMS, says = "1 i2f")
    static void i2fRoundsToTheNearestAndTiesToEven() {
        fromInt(Codes.I2F, 0, Codes.FLOAT, 0);
        fromInt(Codes.I2F, -1, Codes.FLOAT, Codes.bitsOf(-1f));
        fromInt(Codes.I2F, 16777216, Codes.FLOAT, Codes.bitsOf(0x1p24f));
        fromInt(Codes.I2F, 16777217, Codes.FLOAT, Codes.bitsOf(0x1p24f));
        fromInt(Codes.I2F, 16777219, Codes.FLOAT, Codes.bitsOf(0x1.000004p24f));
        fromInt(Codes.I2F, 33554435, Codes.FLOAT, Codes.bitsOf(0x1.000002p25f));
        fromInt(Codes.I2F, INT_MAX, Codes.FLOAT, Codes.bitsOf(0x1p31f));
        fromInt(Codes.I2F, INT_MIN, Codes.FLOAT, Codes.bitsOf(-0x1p31f));
        fromInt(Codes.I2F, 2147483583, Codes.FLOAT, Codes.bitsOf(0x1.fffffep30f));
        fromInt(Codes.I2F, 2147483584, Codes.FLOAT, Codes.bitsOf(0x1p31f));
    }

    @Sentence(at = Sentence.TERMS, says = "2 i2d")
    static void i2dRoundsNothing() {
        fromInt(Codes.I2D, 0, Codes.DOUBLE, 0);
        fromInt(Codes.I2D, -1, Codes.DOUBLE, Codes.bitsOf(-1.0));
        fromInt(Codes.I2D, INT_MAX, Codes.DOUBLE, Codes.bitsOf(2147483647.0));
        fromInt(Codes.I2D, INT_MIN, Codes.DOUBLE, Codes.bitsOf(-2147483648.0));
    }

    @Sentence(at = Sentence.TERMS, says = "3 l2i")
    static void l2iWraps() {
        fromLong(Codes.L2I, INT_MAX, Codes.INT, INT_MAX);
        fromLong(Codes.L2I, INT_MAX + 1, Codes.INT, INT_MIN);
        fromLong(Codes.L2I, INT_MIN - 1, Codes.INT, INT_MAX);
        fromLong(Codes.L2I, 1L << 32, Codes.INT, 0);
        fromLong(Codes.L2I, LONG_MAX, Codes.INT, -1);
        fromLong(Codes.L2I, LONG_MIN, Codes.INT, 0);
    }

    @Sentence(at = Sentence.TERMS, says = "4 l2f")
    static void l2fRoundsOnceFromTheLong() {
        fromLong(Codes.L2F, 0, Codes.FLOAT, 0);
        fromLong(Codes.L2F, -1, Codes.FLOAT, Codes.bitsOf(-1f));
        fromLong(Codes.L2F, LONG_MAX, Codes.FLOAT, Codes.bitsOf(0x1p63f));
        fromLong(Codes.L2F, LONG_MIN, Codes.FLOAT, Codes.bitsOf(-0x1p63f));
        fromLong(Codes.L2F, LONG_MIN + 1, Codes.FLOAT, Codes.bitsOf(-0x1p63f));
        // by way of a DOUBLE this would be a tie and go down
        fromLong(Codes.L2F, (1L << 54) + (1L << 30) + 1, Codes.FLOAT, Codes.bitsOf(0x1.000002p54f));
        fromLong(Codes.L2F, (1L << 54) + (1L << 30), Codes.FLOAT, Codes.bitsOf(0x1p54f));
    }

    @Sentence(at = Sentence.TERMS, says = "5 l2d")
    static void l2dRoundsAboveFiftyThreeBits() {
        fromLong(Codes.L2D, 0, Codes.DOUBLE, 0);
        fromLong(Codes.L2D, -1, Codes.DOUBLE, Codes.bitsOf(-1.0));
        fromLong(Codes.L2D, (1L << 53) - 1, Codes.DOUBLE, Codes.bitsOf(9007199254740991.0));
        fromLong(Codes.L2D, (1L << 53) + 1, Codes.DOUBLE, Codes.bitsOf(0x1p53));
        fromLong(Codes.L2D, (1L << 53) + 3, Codes.DOUBLE, Codes.bitsOf(0x1.0000000000002p53));
        fromLong(Codes.L2D, LONG_MAX, Codes.DOUBLE, Codes.bitsOf(0x1p63));
        fromLong(Codes.L2D, LONG_MIN, Codes.DOUBLE, Codes.bitsOf(-0x1p63));
    }

    @Sentence(at = Sentence.TERMS, says = "6 f2i")
    static void f2iTruncatesAndStopsAtTheEnds() {
        fromFloat(Codes.F2I, 0.99999994f, Codes.INT, 0);
        fromFloat(Codes.F2I, -0.99999994f, Codes.INT, 0);
        fromFloat(Codes.F2I, -1.9999999f, Codes.INT, -1);
        fromFloat(Codes.F2I, -0f, Codes.INT, 0);
        fromFloat(Codes.F2I, Float.MIN_VALUE, Codes.INT, 0);
        fromFloat(Codes.F2I, 0x1.fffffep30f, Codes.INT, 2147483520);
        fromFloat(Codes.F2I, 0x1p31f, Codes.INT, INT_MAX);
        fromFloat(Codes.F2I, -0x1p31f, Codes.INT, INT_MIN);
        fromFloat(Codes.F2I, -0x1.000002p31f, Codes.INT, INT_MIN);
        fromFloat(Codes.F2I, Float.POSITIVE_INFINITY, Codes.INT, INT_MAX);
        fromFloat(Codes.F2I, Float.NEGATIVE_INFINITY, Codes.INT, INT_MIN);
        fromFloat(Codes.F2I, Float.NaN, Codes.INT, 0);
    }

    @Sentence(at = Sentence.TERMS, says = "7 f2l")
    static void f2lTruncatesAndStopsAtTheEnds() {
        fromFloat(Codes.F2L, -1.9999999f, Codes.LONG, -1);
        fromFloat(Codes.F2L, 0x1p31f, Codes.LONG, 2147483648L);
        fromFloat(Codes.F2L, 0x1.fffffep62f, Codes.LONG, 0x7FFFFF8000000000L);
        fromFloat(Codes.F2L, 0x1p63f, Codes.LONG, LONG_MAX);
        fromFloat(Codes.F2L, -0x1p63f, Codes.LONG, LONG_MIN);
        fromFloat(Codes.F2L, -0x1.000002p63f, Codes.LONG, LONG_MIN);
        fromFloat(Codes.F2L, Float.POSITIVE_INFINITY, Codes.LONG, LONG_MAX);
        fromFloat(Codes.F2L, Float.NEGATIVE_INFINITY, Codes.LONG, LONG_MIN);
        fromFloat(Codes.F2L, Float.NaN, Codes.LONG, 0);
    }

    @Sentence(at = Sentence.TERMS, says = "8 f2d")
    static void f2dKeepsEveryFloat() {
        fromFloat(Codes.F2D, Float.MIN_VALUE, Codes.DOUBLE, Codes.bitsOf(0x1p-149));
        fromFloat(Codes.F2D, 0x0.fffffep-126f, Codes.DOUBLE, Codes.bitsOf(0x0.fffffep-126));
        fromFloat(Codes.F2D, Float.MAX_VALUE, Codes.DOUBLE, Codes.bitsOf(0x1.fffffep127));
        fromFloat(Codes.F2D, 0f, Codes.DOUBLE, 0);
        fromFloat(Codes.F2D, -0f, Codes.DOUBLE, MINUS_DOUBLE_ZERO);
        fromFloat(Codes.F2D, Float.POSITIVE_INFINITY, Codes.DOUBLE, DOUBLE_INFINITY);
        fromFloat(Codes.F2D, Float.NEGATIVE_INFINITY, Codes.DOUBLE, MINUS_DOUBLE_INFINITY);
        fromFloat(Codes.F2D, Float.NaN, Codes.DOUBLE, DOUBLE_NAN);
    }

    @Sentence(at = Sentence.TERMS, says = "9 d2i")
    static void d2iTruncatesAndStopsAtTheEnds() {
        fromDouble(Codes.D2I, -0.9999999999999999, Codes.INT, 0);
        fromDouble(Codes.D2I, 2147483646.9999998, Codes.INT, 2147483646);
        fromDouble(Codes.D2I, 2147483647.0, Codes.INT, INT_MAX);
        fromDouble(Codes.D2I, 2147483647.9999998, Codes.INT, INT_MAX);
        fromDouble(Codes.D2I, 2147483648.0, Codes.INT, INT_MAX);
        fromDouble(Codes.D2I, -2147483647.9999998, Codes.INT, -2147483647);
        fromDouble(Codes.D2I, -2147483648.9999995, Codes.INT, INT_MIN);
        fromDouble(Codes.D2I, -2147483649.0, Codes.INT, INT_MIN);
        fromDouble(Codes.D2I, 0x1p63, Codes.INT, INT_MAX);
        fromDouble(Codes.D2I, Double.POSITIVE_INFINITY, Codes.INT, INT_MAX);
        fromDouble(Codes.D2I, Double.NEGATIVE_INFINITY, Codes.INT, INT_MIN);
        fromDouble(Codes.D2I, Double.NaN, Codes.INT, 0);
    }

    @Sentence(at = Sentence.TERMS, says = "10 d2l")
    static void d2lTruncatesAndStopsAtTheEnds() {
        fromDouble(Codes.D2L, 0.9999999999999999, Codes.LONG, 0);
        fromDouble(Codes.D2L, Double.MIN_VALUE, Codes.LONG, 0);
        fromDouble(Codes.D2L, 4503599627370495.5, Codes.LONG, 4503599627370495L);
        fromDouble(Codes.D2L, 0x1.fffffffffffffp62, Codes.LONG, 0x7FFFFFFFFFFFFC00L);
        fromDouble(Codes.D2L, 0x1p63, Codes.LONG, LONG_MAX);
        fromDouble(Codes.D2L, -0x1.fffffffffffffp62, Codes.LONG, -0x7FFFFFFFFFFFFC00L);
        fromDouble(Codes.D2L, -0x1p63, Codes.LONG, LONG_MIN);
        fromDouble(Codes.D2L, -0x1.0000000000001p63, Codes.LONG, LONG_MIN);
        fromDouble(Codes.D2L, Double.POSITIVE_INFINITY, Codes.LONG, LONG_MAX);
        fromDouble(Codes.D2L, Double.NEGATIVE_INFINITY, Codes.LONG, LONG_MIN);
        fromDouble(Codes.D2L, Double.NaN, Codes.LONG, 0);
    }

    @Sentence(at = Sentence.TERMS, says = "11 d2f")
    static void d2fTooLargeIsInfinite() {
        fromDouble(Codes.D2F, 0x1.fffffefffffffp127, Codes.FLOAT, Codes.bitsOf(Float.MAX_VALUE));
        fromDouble(Codes.D2F, 0x1.ffffffp127, Codes.FLOAT, FLOAT_INFINITY);
        fromDouble(Codes.D2F, -0x1.ffffffp127, Codes.FLOAT, MINUS_FLOAT_INFINITY);
        fromDouble(Codes.D2F, Double.MAX_VALUE, Codes.FLOAT, FLOAT_INFINITY);
        fromDouble(Codes.D2F, Double.NEGATIVE_INFINITY, Codes.FLOAT, MINUS_FLOAT_INFINITY);
        fromDouble(Codes.D2F, Double.NaN, Codes.FLOAT, FLOAT_NAN);
    }

    @Sentence(at = Sentence.TERMS, says = "11 d2f")
    static void d2fTooSmallIsZeroWithItsSign() {
        fromDouble(Codes.D2F, 0x1p-150, Codes.FLOAT, 0);
        fromDouble(Codes.D2F, 0x1.0000000000001p-150, Codes.FLOAT, 1);
        fromDouble(Codes.D2F, -0x1p-150, Codes.FLOAT, MINUS_FLOAT_ZERO);
        fromDouble(Codes.D2F, -Double.MIN_VALUE, Codes.FLOAT, MINUS_FLOAT_ZERO);
        fromDouble(Codes.D2F, -0.0, Codes.FLOAT, MINUS_FLOAT_ZERO);
        fromDouble(Codes.D2F, 0.0, Codes.FLOAT, 0);
        fromDouble(Codes.D2F, 0x1.8p-149, Codes.FLOAT, 2);
        fromDouble(Codes.D2F, 0x1.ffffffp-127, Codes.FLOAT, Codes.bitsOf(Float.MIN_NORMAL));
    }

    @Sentence(at = Sentence.TERMS, says = "11 d2f")
    static void d2fFarTooSmallIsZeroWithItsSign() {
        for (int exponent = -151; exponent >= -1074; exponent--) {
            fromDouble(Codes.D2F, Math.scalb(1.0, exponent), Codes.FLOAT, 0);
            fromDouble(Codes.D2F, Math.scalb(-1.5, exponent), Codes.FLOAT, MINUS_FLOAT_ZERO);
        }
    }

    @Sentence(at = Sentence.TERMS, says = "11 d2f")
    static void d2fTiesToEven() {
        fromDouble(Codes.D2F, 0x1.000001p0, Codes.FLOAT, Codes.bitsOf(1f));
        fromDouble(Codes.D2F, 0x1.000003p0, Codes.FLOAT, Codes.bitsOf(0x1.000004p0f));
        fromDouble(Codes.D2F, 0x1.0000010000001p0, Codes.FLOAT, Codes.bitsOf(0x1.000002p0f));
    }

    @Sentence(at = Sentence.TERMS, says = "12 i2b")
    static void i2bWrapsWithSign() {
        fromInt(Codes.I2B, 127, Codes.INT, 127);
        fromInt(Codes.I2B, 128, Codes.INT, -128);
        fromInt(Codes.I2B, 255, Codes.INT, -1);
        fromInt(Codes.I2B, 256, Codes.INT, 0);
        fromInt(Codes.I2B, -129, Codes.INT, 127);
        fromInt(Codes.I2B, INT_MIN, Codes.INT, 0);
    }

    @Sentence(at = Sentence.TERMS, says = "13 i2c")
    static void i2cWrapsWithoutSign() {
        fromInt(Codes.I2C, 65535, Codes.INT, 65535);
        fromInt(Codes.I2C, 65536, Codes.INT, 0);
        fromInt(Codes.I2C, -1, Codes.INT, 65535);
        fromInt(Codes.I2C, 32768, Codes.INT, 32768);
        fromInt(Codes.I2C, INT_MIN, Codes.INT, 0);
    }

    @Sentence(at = Sentence.TERMS, says = "14 i2s")
    static void i2sWrapsWithSign() {
        fromInt(Codes.I2S, 32767, Codes.INT, 32767);
        fromInt(Codes.I2S, 32768, Codes.INT, -32768);
        fromInt(Codes.I2S, 65535, Codes.INT, -1);
        fromInt(Codes.I2S, -32769, Codes.INT, 32767);
        fromInt(Codes.I2S, INT_MIN, Codes.INT, 0);
    }

    @Sentence(at = Sentence.TERMS, says = KIND_BEFORE)
    static void anotherKindThanTheOneBeforeTheTwo() {
        for (int operation = 0; operation < NAMES.length; operation++) {
            for (int kind = 0; kind < 4; kind++) {
                if ("ilfd".charAt(kind) != NAMES[operation].charAt(0)) {
                    int number = operation;
                    int operand = kind;
                    Boundary.refused(NAMES[operation] + " of KIND " + kind, Given::busy, x -> x.one(number, 6, operand));
                }
            }
        }
    }

    @Sentence(at = Sentence.TERMS, says = KIND_BEHIND)
    static void theKindBehindTheTwo() {
        for (int operation = 0; operation < NAMES.length; operation++) {
            int taken = "ilfd".indexOf(NAMES[operation].charAt(0));
            int given = Math.max("ilfd".indexOf(NAMES[operation].charAt(2)), Codes.INT);
            Boundary.one(operation, taken, 0, given, 0);
        }
    }

    @Sentence(at = Sentence.TERMS, says = NEG)
    static void negOfTheLeastIntAndLongWraps() {
        Boundary.one(Codes.NEG, Codes.INT, INT_MIN, Codes.INT, INT_MIN);
        Boundary.one(Codes.NEG, Codes.INT, INT_MAX, Codes.INT, -INT_MAX);
        Boundary.one(Codes.NEG, Codes.LONG, LONG_MIN, Codes.LONG, LONG_MIN);
        Boundary.one(Codes.NEG, Codes.LONG, INT_MIN, Codes.LONG, 2147483648L);
        Boundary.one(Codes.NEG, Codes.INT, 0, Codes.INT, 0);
    }

    @Sentence(at = Sentence.TERMS, says = NEG)
    static void negOfZerosInfinitiesAndNan() {
        Boundary.one(Codes.NEG, Codes.FLOAT, 0, Codes.FLOAT, MINUS_FLOAT_ZERO);
        Boundary.one(Codes.NEG, Codes.FLOAT, MINUS_FLOAT_ZERO, Codes.FLOAT, 0);
        Boundary.one(Codes.NEG, Codes.FLOAT, FLOAT_INFINITY, Codes.FLOAT, MINUS_FLOAT_INFINITY);
        Boundary.one(Codes.NEG, Codes.FLOAT, FLOAT_NAN, Codes.FLOAT, FLOAT_NAN);
        Boundary.one(Codes.NEG, Codes.DOUBLE, 0, Codes.DOUBLE, MINUS_DOUBLE_ZERO);
        Boundary.one(Codes.NEG, Codes.DOUBLE, MINUS_DOUBLE_ZERO, Codes.DOUBLE, 0);
        Boundary.one(Codes.NEG, Codes.DOUBLE, DOUBLE_INFINITY, Codes.DOUBLE, MINUS_DOUBLE_INFINITY);
        Boundary.one(Codes.NEG, Codes.DOUBLE, DOUBLE_NAN, Codes.DOUBLE, DOUBLE_NAN);
    }

    @Sentence(at = Sentence.TERMS, says = ABSOLUTE)
    static void absoluteOfTheLeastIntAndLongStays() {
        Boundary.one(Codes.ABSOLUTE, Codes.INT, INT_MIN, Codes.INT, INT_MIN);
        Boundary.one(Codes.ABSOLUTE, Codes.INT, INT_MIN + 1, Codes.INT, INT_MAX);
        Boundary.one(Codes.ABSOLUTE, Codes.LONG, LONG_MIN, Codes.LONG, LONG_MIN);
        Boundary.one(Codes.ABSOLUTE, Codes.LONG, LONG_MIN + 1, Codes.LONG, LONG_MAX);
        Boundary.one(Codes.ABSOLUTE, Codes.LONG, INT_MIN, Codes.LONG, 2147483648L);
    }

    @Sentence(at = Sentence.TERMS, says = ABSOLUTE)
    static void absoluteOfZerosInfinitiesAndNan() {
        Boundary.one(Codes.ABSOLUTE, Codes.FLOAT, MINUS_FLOAT_ZERO, Codes.FLOAT, 0);
        Boundary.one(Codes.ABSOLUTE, Codes.FLOAT, MINUS_FLOAT_INFINITY, Codes.FLOAT, FLOAT_INFINITY);
        Boundary.one(Codes.ABSOLUTE, Codes.FLOAT, FLOAT_NAN, Codes.FLOAT, FLOAT_NAN);
        Boundary.one(Codes.ABSOLUTE, Codes.DOUBLE, MINUS_DOUBLE_ZERO, Codes.DOUBLE, 0);
        Boundary.one(Codes.ABSOLUTE, Codes.DOUBLE, MINUS_DOUBLE_INFINITY, Codes.DOUBLE, DOUBLE_INFINITY);
        Boundary.one(Codes.ABSOLUTE, Codes.DOUBLE, DOUBLE_NAN, Codes.DOUBLE, DOUBLE_NAN);
        Boundary.one(Codes.ABSOLUTE, Codes.DOUBLE, LONG_MIN + 1, Codes.DOUBLE, 1);
    }

    @Sentence(at = Sentence.TERMS, says = TO_BITS)
    static void toBitsOfZerosInfinitiesAndNan() {
        Boundary.one(Codes.TO_BITS, Codes.FLOAT, MINUS_FLOAT_ZERO, Codes.INT, INT_MIN);
        Boundary.one(Codes.TO_BITS, Codes.FLOAT, MINUS_FLOAT_INFINITY, Codes.INT, -8388608);
        Boundary.one(Codes.TO_BITS, Codes.FLOAT, FLOAT_NAN, Codes.INT, 2143289344);
        Boundary.one(Codes.TO_BITS, Codes.DOUBLE, MINUS_DOUBLE_ZERO, Codes.LONG, LONG_MIN);
        Boundary.one(Codes.TO_BITS, Codes.DOUBLE, MINUS_DOUBLE_INFINITY, Codes.LONG, -4503599627370496L);
        Boundary.one(Codes.TO_BITS, Codes.DOUBLE, DOUBLE_NAN, Codes.LONG, 9221120237041090560L);
    }

    @Sentence(at = Sentence.TERMS, says = TO_BITS)
    static void toBitsOfIntAndLongIsRefused() {
        Boundary.refused("TO BITS of an INT", Given::busy, x -> x.one(Codes.TO_BITS, 6, 0));
        Boundary.refused("TO BITS of a LONG", Given::busy, x -> x.one(Codes.TO_BITS, 6, 1));
    }

    @Sentence(at = Sentence.TERMS, says = FROM_BITS)
    static void fromBitsOfTheEnds() {
        Boundary.one(Codes.FROM_BITS, Codes.INT, INT_MIN, Codes.FLOAT, MINUS_FLOAT_ZERO);
        Boundary.one(Codes.FROM_BITS, Codes.INT, INT_MAX, Codes.FLOAT, FLOAT_NAN);
        Boundary.one(Codes.FROM_BITS, Codes.INT, -1, Codes.FLOAT, FLOAT_NAN);
        Boundary.one(Codes.FROM_BITS, Codes.INT, 2139095040, Codes.FLOAT, FLOAT_INFINITY);
        Boundary.one(Codes.FROM_BITS, Codes.LONG, LONG_MIN, Codes.DOUBLE, MINUS_DOUBLE_ZERO);
        Boundary.one(Codes.FROM_BITS, Codes.LONG, LONG_MAX, Codes.DOUBLE, DOUBLE_NAN);
        Boundary.one(Codes.FROM_BITS, Codes.LONG, INT_MAX, Codes.DOUBLE, INT_MAX);
        Boundary.one(Codes.FROM_BITS, Codes.LONG, -4503599627370496L, Codes.DOUBLE, MINUS_DOUBLE_INFINITY);
    }

    @Sentence(at = Sentence.TERMS, says = FROM_BITS)
    static void fromBitsOfFloatAndDoubleIsRefused() {
        Boundary.refused("FROM BITS of a FLOAT", Given::busy, x -> x.one(Codes.FROM_BITS, 6, 2));
        Boundary.refused("FROM BITS of a DOUBLE", Given::busy, x -> x.one(Codes.FROM_BITS, 6, 3));
    }
}
