public final class Promise04OneTest {
    private static final int[] TAKEN = {0, 0, 0, 1, 1, 1, 2, 2, 2, 3, 3, 3, 0, 0, 0};
    private static final int[] GIVEN = {1, 2, 3, 0, 2, 3, 0, 1, 3, 0, 1, 2, 0, 0, 0};

    public static void main(String[] args) {
        wholeConversions();
        roundingConversions();
        truncations();
        negAndAbsolute();
        bitsToAndFro();
        shadows();
        ontoItself();
        refusals();
        Check.end();
    }

    private static void gives(int operation, int kind, long bits, int resultKind, long result) {
        ShadowMachine x = new ShadowMachine();
        x.constant(1, kind, bits);
        Check.due("one(" + operation + ", 6, 1) of " + bits, x.one(operation, 6, 1), ShadowMachine.OK);
        Check.register(x, 6, resultKind, result, 64);
        Check.due("bits(1)", x.bits(1), bits);
    }

    private static void wholeConversions() {
        gives(Codes.I2L, Codes.INT, Integer.MIN_VALUE, Codes.LONG, Integer.MIN_VALUE);
        gives(Codes.L2I, Codes.LONG, 0x1_8000_0000L, Codes.INT, Integer.MIN_VALUE);
        gives(Codes.L2I, Codes.LONG, 0x1_7FFF_FFFFL, Codes.INT, Integer.MAX_VALUE);
        gives(Codes.I2B, Codes.INT, 0x180, Codes.INT, -128);
        gives(Codes.I2B, Codes.INT, 0x17F, Codes.INT, 127);
        gives(Codes.I2C, Codes.INT, -1, Codes.INT, 65535);
        gives(Codes.I2S, Codes.INT, 0x18000, Codes.INT, -32768);
        gives(Codes.I2S, Codes.INT, 0x17FFF, Codes.INT, 32767);
    }

    private static void roundingConversions() {
        gives(Codes.I2F, Codes.INT, 16777217, Codes.FLOAT, Codes.bitsOf(16777216f));
        gives(Codes.I2F, Codes.INT, 16777219, Codes.FLOAT, Codes.bitsOf(16777220f));
        gives(Codes.I2F, Codes.INT, Integer.MAX_VALUE, Codes.FLOAT, Codes.bitsOf(2147483648f));
        gives(Codes.I2F, Codes.INT, Integer.MIN_VALUE, Codes.FLOAT, Codes.bitsOf(-2147483648f));
        gives(Codes.I2D, Codes.INT, Integer.MIN_VALUE, Codes.DOUBLE, Codes.bitsOf(-2147483648.0));
        gives(Codes.I2D, Codes.INT, 0, Codes.DOUBLE, 0);
        gives(Codes.L2F, Codes.LONG, Long.MIN_VALUE, Codes.FLOAT, Codes.bitsOf(-0x1p63f));
        gives(Codes.L2F, Codes.LONG, 0x7FFFFF4000000001L, Codes.FLOAT, Codes.bitsOf((float) 0x7FFFFF4000000001L));
        gives(Codes.L2D, Codes.LONG, Long.MIN_VALUE, Codes.DOUBLE, Codes.bitsOf(-0x1p63));
        gives(Codes.L2D, Codes.LONG, (1L << 53) + 1, Codes.DOUBLE, Codes.bitsOf(0x1p53));
        gives(Codes.L2D, Codes.LONG, (1L << 53) + 3, Codes.DOUBLE, Codes.bitsOf(0x1p53 + 4));
        gives(Codes.F2D, Codes.FLOAT, 1, Codes.DOUBLE, Codes.bitsOf(0x1p-149));
        gives(Codes.F2D, Codes.FLOAT, Codes.bitsOf(-0f), Codes.DOUBLE, Long.MIN_VALUE);
        gives(Codes.F2D, Codes.FLOAT, 0x7FC00000L, Codes.DOUBLE, 0x7FF8000000000000L);
        gives(Codes.D2F, Codes.DOUBLE, Codes.bitsOf(0x1p-150), Codes.FLOAT, 0);
        gives(Codes.D2F, Codes.DOUBLE, Codes.bitsOf(-0x1p-150), Codes.FLOAT, Codes.bitsOf(-0f));
        gives(Codes.D2F, Codes.DOUBLE, Codes.bitsOf(0x1.000001p-150), Codes.FLOAT, 1);
        gives(Codes.D2F, Codes.DOUBLE, Codes.bitsOf(0x1.fffffefffffffp127), Codes.FLOAT, Codes.bitsOf(Float.MAX_VALUE));
        gives(Codes.D2F, Codes.DOUBLE, Codes.bitsOf(0x1.ffffffp127), Codes.FLOAT, 0x7F800000L);
        gives(Codes.D2F, Codes.DOUBLE, Codes.bitsOf(Double.MIN_VALUE), Codes.FLOAT, 0);
    }

    private static void truncations() {
        gives(Codes.F2I, Codes.FLOAT, Codes.bitsOf(-1.99f), Codes.INT, -1);
        gives(Codes.F2I, Codes.FLOAT, 0x7FC00000L, Codes.INT, 0);
        gives(Codes.F2I, Codes.FLOAT, Codes.bitsOf(1e10f), Codes.INT, Integer.MAX_VALUE);
        gives(Codes.F2I, Codes.FLOAT, Codes.bitsOf(-1e10f), Codes.INT, Integer.MIN_VALUE);
        gives(Codes.F2L, Codes.FLOAT, Codes.bitsOf(1e10f), Codes.LONG, 10000000000L);
        gives(Codes.F2L, Codes.FLOAT, Codes.bitsOf(1e30f), Codes.LONG, Long.MAX_VALUE);
        gives(Codes.D2I, Codes.DOUBLE, Codes.bitsOf(2147483647.9), Codes.INT, Integer.MAX_VALUE);
        gives(Codes.D2I, Codes.DOUBLE, Codes.bitsOf(-2147483648.9), Codes.INT, Integer.MIN_VALUE);
        gives(Codes.D2I, Codes.DOUBLE, Codes.bitsOf(1e300), Codes.INT, Integer.MAX_VALUE);
        gives(Codes.D2L, Codes.DOUBLE, Codes.bitsOf(-0.999), Codes.LONG, 0);
        gives(Codes.D2L, Codes.DOUBLE, Codes.bitsOf(0x1.fffffffffffffp62), Codes.LONG, 0x7FFFFFFFFFFFFC00L);
        gives(Codes.D2L, Codes.DOUBLE, Codes.bitsOf(0x1p63), Codes.LONG, Long.MAX_VALUE);
        gives(Codes.D2L, Codes.DOUBLE, Codes.bitsOf(-0x1p63), Codes.LONG, Long.MIN_VALUE);
        gives(Codes.D2L, Codes.DOUBLE, Codes.bitsOf(Double.NEGATIVE_INFINITY), Codes.LONG, Long.MIN_VALUE);
        gives(Codes.D2L, Codes.DOUBLE, 1, Codes.LONG, 0);
    }

    private static void negAndAbsolute() {
        gives(Codes.NEG, Codes.INT, Integer.MIN_VALUE, Codes.INT, Integer.MIN_VALUE);
        gives(Codes.NEG, Codes.INT, 5, Codes.INT, -5);
        gives(Codes.NEG, Codes.LONG, Long.MIN_VALUE, Codes.LONG, Long.MIN_VALUE);
        gives(Codes.NEG, Codes.LONG, Integer.MIN_VALUE, Codes.LONG, 2147483648L);
        gives(Codes.NEG, Codes.FLOAT, 0, Codes.FLOAT, Codes.bitsOf(-0f));
        gives(Codes.NEG, Codes.FLOAT, 0x7FC00000L, Codes.FLOAT, 0x7FC00000L);
        gives(Codes.NEG, Codes.DOUBLE, Codes.bitsOf(-1.5), Codes.DOUBLE, Codes.bitsOf(1.5));
        gives(Codes.NEG, Codes.DOUBLE, 0x7FF8000000000000L, Codes.DOUBLE, 0x7FF8000000000000L);
        gives(Codes.ABSOLUTE, Codes.INT, Integer.MIN_VALUE, Codes.INT, Integer.MIN_VALUE);
        gives(Codes.ABSOLUTE, Codes.INT, -7, Codes.INT, 7);
        gives(Codes.ABSOLUTE, Codes.LONG, Long.MIN_VALUE, Codes.LONG, Long.MIN_VALUE);
        gives(Codes.ABSOLUTE, Codes.LONG, Integer.MIN_VALUE, Codes.LONG, 2147483648L);
        gives(Codes.ABSOLUTE, Codes.FLOAT, Codes.bitsOf(-0f), Codes.FLOAT, 0);
        gives(Codes.ABSOLUTE, Codes.FLOAT, Codes.bitsOf(Float.NEGATIVE_INFINITY), Codes.FLOAT, 0x7F800000L);
        gives(Codes.ABSOLUTE, Codes.DOUBLE, Codes.bitsOf(-2.5), Codes.DOUBLE, Codes.bitsOf(2.5));
        gives(Codes.ABSOLUTE, Codes.DOUBLE, 0x7FF8000000000000L, Codes.DOUBLE, 0x7FF8000000000000L);
    }

    private static void bitsToAndFro() {
        gives(Codes.TO_BITS, Codes.FLOAT, Codes.bitsOf(-0f), Codes.INT, Integer.MIN_VALUE);
        gives(Codes.TO_BITS, Codes.FLOAT, 0x7FC00000L, Codes.INT, 0x7FC00000L);
        gives(Codes.TO_BITS, Codes.DOUBLE, Codes.bitsOf(-2.0), Codes.LONG, 0xC000000000000000L);
        gives(Codes.FROM_BITS, Codes.INT, 0x3F800000L, Codes.FLOAT, 0x3F800000L);
        gives(Codes.FROM_BITS, Codes.INT, -1, Codes.FLOAT, 0x7FC00000L);
        gives(Codes.FROM_BITS, Codes.LONG, Long.MIN_VALUE, Codes.DOUBLE, Long.MIN_VALUE);
        gives(Codes.FROM_BITS, Codes.LONG, 0x7FF0000000000001L, Codes.DOUBLE, 0x7FF8000000000000L);
        gives(Codes.FROM_BITS, Codes.LONG, 0x7FC00001L, Codes.DOUBLE, 0x7FC00001L);
    }

    private static void shadows() {
        for (int operation = 0; operation < 19; operation++) {
            boolean rounds = operation == 1 || operation == 4 || operation == 5 || operation == 11;
            for (int kind = 0; kind < 4; kind++) {
                ShadowMachine x = new ShadowMachine();
                x.input(2, kind, 0, 3);
                if (x.one(operation, 4, 2) == ShadowMachine.OK) {
                    Check.due("shadow of " + operation, x.shadow(4), rounds ? 8 : 72);
                    Check.due("shadow of the operand", x.shadow(2), 72);
                    Check.counts(x, 0, 0, 0, 2);
                }
            }
        }
        inexactStaysInexact();
    }

    private static void inexactStaysInexact() {
        ShadowMachine x = new ShadowMachine();
        x.input(0, Codes.LONG, 9, 1);
        x.one(Codes.L2D, 0, 0);
        int[] chain = {Codes.NEG, Codes.ABSOLUTE, Codes.TO_BITS, Codes.FROM_BITS, Codes.D2L, Codes.L2I, Codes.I2B, Codes.I2L};
        for (int operation : chain) {
            Check.due("one(" + operation + ", 0, 0)", x.one(operation, 0, 0), ShadowMachine.OK);
            Check.due("shadow(0)", x.shadow(0), 2);
        }
        x.constant(0, Codes.LONG, 9);
        x.one(Codes.L2F, 0, 0);
        Check.due("rounding what depends on nothing is EXACT", x.shadow(0), 64);
    }

    private static void ontoItself() {
        ShadowMachine x = new ShadowMachine();
        x.input(5, Codes.INT, 77, 0);
        Check.due("one(0, 5, 5)", x.one(Codes.I2L, 5, 5), ShadowMachine.OK);
        Check.register(x, 5, Codes.LONG, 77, 65);
    }

    private static void refusals() {
        for (int kind = 0; kind < 4; kind++) {
            for (int operation = -3; operation < 45; operation++) {
                ShadowMachine x = new ShadowMachine();
                x.input(1, kind, 0, 2);
                String before = Check.state(x);
                boolean taken = isTaken(operation, kind);
                int got = x.one(operation, 0, 1);
                Check.due("one(" + operation + ", 0, 1) of kind " + kind, got, taken ? ShadowMachine.OK : ShadowMachine.REFUSED);
                if (taken) {
                    Check.due("kind(0)", x.kind(0), kindGiven(operation, kind));
                } else {
                    Check.holds("a refused one changes nothing", before.equals(Check.state(x)));
                }
            }
        }
        ShadowMachine x = new ShadowMachine();
        for (int wrong : Codes.BELOW_AND_ABOVE_REGISTERS) {
            Check.due("one of a wrong r", x.one(Codes.NEG, wrong, 0), ShadowMachine.REFUSED);
            Check.due("one of a wrong a", x.one(Codes.NEG, 0, wrong), ShadowMachine.REFUSED);
        }
        Check.due("one(min)", x.one(Integer.MIN_VALUE, 0, 0), ShadowMachine.REFUSED);
        Check.due("one(max)", x.one(Integer.MAX_VALUE, 0, 0), ShadowMachine.REFUSED);
    }

    private static boolean isTaken(int operation, int kind) {
        if (operation >= 0 && operation < 15) {
            return TAKEN[operation] == kind;
        }
        return operation == 15 || operation == 16 || operation == 17 && kind > 1 || operation == 18 && kind < 2;
    }

    private static int kindGiven(int operation, int kind) {
        if (operation < 15) {
            return GIVEN[operation];
        }
        return operation == 17 ? kind - 2 : operation == 18 ? kind + 2 : kind;
    }
}
