import java.util.Random;

/** Every OPERATION on numbers, for edges and for numbers drawn from a fixed seed, against Java's own arithmetic. */
public final class FloatingAgainstJavaTest {
    private static final int DRAWN = 200_000;
    private static final float[] FLOAT_EDGES = {
        0f, 1f, 1.5f, 2f, 3f, 0.1f, Float.MIN_VALUE, 3 * Float.MIN_VALUE, Float.MIN_NORMAL, Float.MIN_NORMAL - Float.MIN_VALUE,
        Float.MIN_NORMAL + Float.MIN_VALUE, Float.MAX_VALUE, Float.MAX_VALUE / 2, 1f + 0x1p-23f, 1f - 0x1p-24f, 0x1p23f, 0x1p24f,
        0x1p31f, 0x1p63f, 0x1p-75f, 0x1p-74f, 0x1.8p-75f, 0x1p64f, Float.POSITIVE_INFINITY, Float.NaN
    };
    private static final double[] DOUBLE_EDGES = {
        0, 1, 1.5, 2, 3, 0.1, Double.MIN_VALUE, 3 * Double.MIN_VALUE, Double.MIN_NORMAL, Double.MIN_NORMAL - Double.MIN_VALUE,
        Double.MIN_NORMAL + Double.MIN_VALUE, Double.MAX_VALUE, Double.MAX_VALUE / 2, 1 + 0x1p-52, 1 - 0x1p-53, 0x1p52, 0x1p53,
        0x1p31, 0x1p31 - 1, 0x1p31 - 0.5, 0x1p63, 0x1p62, 0x1p-537, 0x1.8p-537, 0x1p-538, 0x1p512, 0x1p-149, 0x1p-150, 0x1.8p-149,
        0x1.fffffefp127, 0x1.fffffep127, 0x1.ffffffp127, 0x1p128, 0x1.000001p0, 0x1.000003p0, 0x1p-126, 0x1.fffffep-127,
        Double.POSITIVE_INFINITY, Double.NaN
    };
    private static final Random DRAW = new Random(20261117);

    public static void main(String[] args) {
        for (float a : FLOAT_EDGES) {
            for (float b : FLOAT_EDGES) {
                floatsOfAllSigns(a, b);
            }
        }
        for (double a : DOUBLE_EDGES) {
            for (double b : DOUBLE_EDGES) {
                doublesOfAllSigns(a, b);
            }
        }
        for (int i = 0; i < DRAWN; i++) {
            floats(drawnFloat(), drawnFloat());
            doubles(drawnDouble(), drawnDouble());
            wholes(drawnLong(), drawnLong());
        }
        Check.end();
    }

    /** Bits at random, or near to one another so that much is cancelled, or with few bits so that ties come. */
    private static float drawnFloat() {
        switch (DRAW.nextInt(4)) {
            case 0:
                return Float.intBitsToFloat(DRAW.nextInt());
            case 1:
                return Float.intBitsToFloat(DRAW.nextInt() & 0x80FFFFFF);
            case 2:
                return Float.intBitsToFloat(DRAW.nextInt() & 0xFFF00000 | DRAW.nextInt(4));
            default:
                return Math.scalb(DRAW.nextInt(1 << 12) - (1 << 11), DRAW.nextInt(60) - 30);
        }
    }

    private static double drawnDouble() {
        switch (DRAW.nextInt(5)) {
            case 0:
                return Double.longBitsToDouble(DRAW.nextLong());
            case 1:
                return Double.longBitsToDouble(DRAW.nextLong() & 0x801FFFFFFFFFFFFFL);
            case 2:
                return Double.longBitsToDouble(DRAW.nextLong() & 0xFFF8000000000000L | DRAW.nextInt(4));
            case 3:
                return Math.scalb((double) (DRAW.nextInt(1 << 12) - (1 << 11)), DRAW.nextInt(120) - 60);
            default:
                return Math.scalb((double) DRAW.nextLong(), DRAW.nextInt(300) - 220);
        }
    }

    private static long drawnLong() {
        return DRAW.nextLong() >> DRAW.nextInt(64);
    }

    private static void floatsOfAllSigns(float a, float b) {
        floats(a, b);
        floats(-a, b);
        floats(a, -b);
        floats(-a, -b);
    }

    private static void doublesOfAllSigns(double a, double b) {
        doubles(a, b);
        doubles(-a, b);
        doubles(a, -b);
        doubles(-a, -b);
    }

    private static ShadowMachine machine(int kind, long a, long b) {
        ShadowMachine x = new ShadowMachine();
        x.constant(0, kind, a);
        x.constant(1, kind, b);
        return x;
    }

    private static void two(ShadowMachine x, int operation, long want) {
        x.two(operation, 2, 0, 1);
        if (x.bits(2) != want) {
            Check.due("two(" + operation + ") of the BITS " + x.bits(0) + " and " + x.bits(1), x.bits(2), want);
        }
    }

    private static void one(ShadowMachine x, int operation, long want) {
        x.one(operation, 2, 0);
        if (x.bits(2) != want) {
            Check.due("one(" + operation + ") of the BITS " + x.bits(0), x.bits(2), want);
        }
    }

    private static void floats(float a, float b) {
        ShadowMachine x = machine(Codes.FLOAT, Float.floatToRawIntBits(a), Float.floatToRawIntBits(b));
        Check.due("bits(0)", x.bits(0), Codes.bitsOf(a));
        two(x, Codes.ADD, Codes.bitsOf(a + b));
        two(x, Codes.SUB, Codes.bitsOf(a - b));
        two(x, Codes.MUL, Codes.bitsOf(a * b));
        two(x, Codes.DIV, Codes.bitsOf(a / b));
        two(x, Codes.REM, Codes.bitsOf(a % b));
        two(x, Codes.LEAST, Codes.bitsOf(Math.min(a, b)));
        two(x, Codes.GREATEST, Codes.bitsOf(Math.max(a, b)));
        two(x, Codes.CMPL, a > b ? 1 : a == b ? 0 : -1);
        two(x, Codes.CMPG, a < b ? -1 : a == b ? 0 : 1);
        one(x, Codes.F2I, (int) a);
        one(x, Codes.F2L, (long) a);
        one(x, Codes.F2D, Codes.bitsOf((double) a));
        one(x, Codes.NEG, Codes.bitsOf(-a));
        one(x, Codes.ABSOLUTE, Codes.bitsOf(Math.abs(a)));
        one(x, Codes.TO_BITS, Codes.bitsOf(a));
    }

    private static void doubles(double a, double b) {
        ShadowMachine x = machine(Codes.DOUBLE, Double.doubleToRawLongBits(a), Double.doubleToRawLongBits(b));
        Check.due("bits(0)", x.bits(0), Codes.bitsOf(a));
        two(x, Codes.ADD, Codes.bitsOf(a + b));
        two(x, Codes.SUB, Codes.bitsOf(a - b));
        two(x, Codes.MUL, Codes.bitsOf(a * b));
        two(x, Codes.DIV, Codes.bitsOf(a / b));
        two(x, Codes.REM, Codes.bitsOf(a % b));
        two(x, Codes.LEAST, Codes.bitsOf(Math.min(a, b)));
        two(x, Codes.GREATEST, Codes.bitsOf(Math.max(a, b)));
        two(x, Codes.CMPL, a > b ? 1 : a == b ? 0 : -1);
        two(x, Codes.CMPG, a < b ? -1 : a == b ? 0 : 1);
        one(x, Codes.D2I, (int) a);
        one(x, Codes.D2L, (long) a);
        one(x, Codes.D2F, Codes.bitsOf((float) a));
        one(x, Codes.NEG, Codes.bitsOf(-a));
        one(x, Codes.ABSOLUTE, Codes.bitsOf(Math.abs(a)));
        one(x, Codes.TO_BITS, Codes.bitsOf(a));
    }

    private static void wholes(long a, long b) {
        ShadowMachine x = machine(Codes.LONG, a, b);
        Check.due("bits(0)", x.bits(0), a);
        two(x, Codes.MUL, a * b);
        one(x, Codes.L2I, (int) a);
        one(x, Codes.L2F, Codes.bitsOf((float) a));
        one(x, Codes.L2D, Codes.bitsOf((double) a));
        one(x, Codes.ABSOLUTE, Math.abs(a));
        one(x, Codes.FROM_BITS, Codes.bitsOf(Double.longBitsToDouble(a)));
        int i = (int) a;
        int j = (int) b;
        x = machine(Codes.INT, i, j);
        Check.due("bits(0)", x.bits(0), i);
        two(x, Codes.MUL, i * j);
        two(x, Codes.SHL, i << j);
        two(x, Codes.SHR, i >> j);
        two(x, Codes.USHR, i >>> j);
        one(x, Codes.I2F, Codes.bitsOf((float) i));
        one(x, Codes.I2D, Codes.bitsOf((double) i));
        one(x, Codes.ABSOLUTE, Math.abs(i));
        one(x, Codes.FROM_BITS, Codes.bitsOf(Float.intBitsToFloat(i)));
    }
}
