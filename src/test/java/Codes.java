/** The document's numbers by name, for the tests. */
final class Codes {
    static final int INT = 0;
    static final int LONG = 1;
    static final int FLOAT = 2;
    static final int DOUBLE = 3;

    static final int I2L = 0;
    static final int I2F = 1;
    static final int I2D = 2;
    static final int L2I = 3;
    static final int L2F = 4;
    static final int L2D = 5;
    static final int F2I = 6;
    static final int F2L = 7;
    static final int F2D = 8;
    static final int D2I = 9;
    static final int D2L = 10;
    static final int D2F = 11;
    static final int I2B = 12;
    static final int I2C = 13;
    static final int I2S = 14;
    static final int NEG = 15;
    static final int ABSOLUTE = 16;
    static final int TO_BITS = 17;
    static final int FROM_BITS = 18;

    static final int ADD = 20;
    static final int SUB = 21;
    static final int MUL = 22;
    static final int DIV = 23;
    static final int REM = 24;
    static final int LEAST = 25;
    static final int GREATEST = 26;
    static final int SHL = 27;
    static final int SHR = 28;
    static final int USHR = 29;
    static final int AND = 30;
    static final int OR = 31;
    static final int XOR = 32;
    static final int CMPL = 33;
    static final int CMPG = 34;

    static final int[] BELOW_AND_ABOVE_REGISTERS = {-1, 8, Integer.MIN_VALUE, Integer.MAX_VALUE};
    static final int[] BELOW_AND_ABOVE_ARRAYS = {-1, 4, Integer.MIN_VALUE, Integer.MAX_VALUE};

    private Codes() {
    }

    static long bitsOf(float number) {
        return Float.floatToIntBits(number);
    }

    static long bitsOf(double number) {
        return Double.doubleToLongBits(number);
    }
}
